set_option maxRecDepth 100000 in
set_option maxHeartbeats 8000000 in
theorem mX0_wayFrom (l : Launch) {X : xsX} {kIsKept kIsStale hiLatest hiSize scLength scFault scAt scNumber piSegmentsNow enKind enFromX enFromY enToX enToY tiMeetingPairs tiAlongPairs tiSize evSize evCrossings evSegmentsNow grEdges grQueued huSize huBestX huBestY : Int32} {scBytes scTold tiTouching tiLyingAlong evBundle evCrossingOf evEventOf evLeftEvent evRightEvent grDegree grFar grQueue huX huY : Nat → Int32} {enX enY enLower : Int64} {evX evY evLower : Nat → Int64} {S : Nat → xsV} {Rw : va_W} {a0 : Int32} {a1 : Int32} {out : Int64} (hf : fX0_wayFrom enKind enX enY enLower enFromX enFromY enToX enToY a0 a1 = some out) : Met l yX0_wayFrom (xsWs yX0_wayFrom cX0_wayFrom 7 (some .long)) { frames := 1, cells := 0, slots := 0, locals := 24 } (xsP X (wK X kIsKept kIsStale hiLatest hiSize scBytes scTold scLength scFault scAt scNumber piSegmentsNow enKind enX enY enLower enFromX enFromY enToX enToY tiTouching tiLyingAlong tiMeetingPairs tiAlongPairs tiSize evX evY evLower evBundle evCrossingOf evEventOf evLeftEvent evRightEvent evSize evCrossings evSegmentsNow grDegree grEdges grFar grQueue grQueued huX huY huSize huBestX huBestY S Rw) [.ref (xsA X 7), .int a0, .int a1]) (xsQl X out (wK X kIsKept kIsStale hiLatest hiSize scBytes scTold scLength scFault scAt scNumber piSegmentsNow enKind enX enY enLower enFromX enFromY enToX enToY tiTouching tiLyingAlong tiMeetingPairs tiAlongPairs tiSize evX evY evLower evBundle evCrossingOf evEventOf evLeftEvent evRightEvent evSize evCrossings evSegmentsNow grDegree grEdges grFar grQueue grQueued huX huY huSize huBestX huBestY S Rw)) 0 0 (xsF X) := by
  refine xs_meth RX0 (by decide) rfl (Nat.le_of_ble_eq_true rfl) ?_
  intro p e s m below meth c ls H locs C hP hD hS hr hlk hl
  have hx := C.1
  have hb := C.2.1
  have hl : lv_has ls 7 [(0, .ref (xsA X 7)), (1, .int a0), (2, .int a1)] := hl
  obtain ⟨Qq, hQq⟩ : ∃ Qq, Qq = xsQl X out (wK X kIsKept kIsStale hiLatest hiSize scBytes scTold scLength scFault scAt scNumber piSegmentsNow enKind enX enY enLower enFromX enFromY enToX enToY tiTouching tiLyingAlong tiMeetingPairs tiAlongPairs tiSize evX evY evLower evBundle evCrossingOf evEventOf evLeftEvent evRightEvent evSize evCrossings evSegmentsNow grDegree grEdges grFar grQueue grQueued huX huY huSize huBestX huBestY S Rw) := ⟨_, rfl⟩
  rw [← hQq]
  unfold fX0_wayFrom at hf
  refine lv_aload_n hx hb dX0_wayFrom_0 rfl (lv_at hl 0 rfl) ?_
  refine xg_X0_9 C hP dX0_wayFrom_1 ?_
  refine lv_iconst (v := (1 : Int32)) hx hb dX0_wayFrom_4 (by decide) ?_
  refine lv_icmp_ne (tgt := 40) hx hb dX0_wayFrom_5 (by decide) (fun c3 => ?_) (fun c3 => ?_)
  · replace hf := xsBr_f c3 hf
    refine lv_aload_n hx hb dX0_wayFrom_40 rfl (lv_at hl 0 rfl) ?_
    refine xg_X0_43 C hP dX0_wayFrom_41 ?_
    refine lv_iload_n hx hb dX0_wayFrom_44 rfl (lv_at hl 1 rfl) ?_
    refine lv_isub hx hb dX0_wayFrom_45 ?_
    refine va_mabs hx hb (C.2.2.1.trans hl.1.symm) C.2.2.2.1 (xs_kts C _ w_1308) (xs_kts C _ w_1309) (xs_kts C _ w_125) (xs_kts C _ w_1310) (Nat.le_of_ble_eq_true rfl) (Nat.le_of_ble_eq_true rfl) (Nat.zero_le _) (Nat.zero_le _) dX0_wayFrom_46 ?_
    refine lv_aload_n hx hb dX0_wayFrom_49 rfl (lv_at hl 0 rfl) ?_
    refine xg_X0_46 C hP dX0_wayFrom_50 ?_
    refine lv_iload_n hx hb dX0_wayFrom_53 rfl (lv_at hl 2 rfl) ?_
    refine lv_isub hx hb dX0_wayFrom_54 ?_
    refine va_mabs hx hb (C.2.2.1.trans hl.1.symm) C.2.2.2.1 (xs_kts C _ w_1308) (xs_kts C _ w_1309) (xs_kts C _ w_125) (xs_kts C _ w_1310) (Nat.le_of_ble_eq_true rfl) (Nat.le_of_ble_eq_true rfl) (Nat.zero_le _) (Nat.zero_le _) dX0_wayFrom_55 ?_
    refine lv_iadd hx hb dX0_wayFrom_58 ?_
    refine lv_i2l hx hb dX0_wayFrom_59 rfl ?_
    refine lv_topl (fun x1 ex1 => ?_)
    replace hf := xsLt_use ex1 hf
    refine lv_lstore_n (lv' := [(3, .long x1), (0, .ref (xsA X 7)), (1, .int a0), (2, .int a1)]) hx hb dX0_wayFrom_60 rfl hl (by decide) rfl (fun ls hl => ?_)
    refine lv_aload_n hx hb dX0_wayFrom_61 rfl (lv_at hl 1 rfl) ?_
    refine xg_X0_55 C hP dX0_wayFrom_62 ?_
    refine lv_iload_n hx hb dX0_wayFrom_65 rfl (lv_at hl 2 rfl) ?_
    refine lv_isub hx hb dX0_wayFrom_66 ?_
    refine va_mabs hx hb (C.2.2.1.trans hl.1.symm) C.2.2.2.1 (xs_kts C _ w_1308) (xs_kts C _ w_1309) (xs_kts C _ w_125) (xs_kts C _ w_1310) (Nat.le_of_ble_eq_true rfl) (Nat.le_of_ble_eq_true rfl) (Nat.zero_le _) (Nat.zero_le _) dX0_wayFrom_67 ?_
    refine lv_aload_n hx hb dX0_wayFrom_70 rfl (lv_at hl 1 rfl) ?_
    refine xg_X0_58 C hP dX0_wayFrom_71 ?_
    refine lv_iload_n hx hb dX0_wayFrom_74 rfl (lv_at hl 3 rfl) ?_
    refine lv_isub hx hb dX0_wayFrom_75 ?_
    refine va_mabs hx hb (C.2.2.1.trans hl.1.symm) C.2.2.2.1 (xs_kts C _ w_1308) (xs_kts C _ w_1309) (xs_kts C _ w_125) (xs_kts C _ w_1310) (Nat.le_of_ble_eq_true rfl) (Nat.le_of_ble_eq_true rfl) (Nat.zero_le _) (Nat.zero_le _) dX0_wayFrom_76 ?_
    refine lv_iadd hx hb dX0_wayFrom_79 ?_
    refine lv_i2l hx hb dX0_wayFrom_80 rfl ?_
    refine lv_topl (fun x2 ex2 => ?_)
    replace hf := xsLt_use ex2 hf
    refine lv_lstore (lv' := [(5, .long x2), (3, .long x1), (0, .ref (xsA X 7)), (1, .int a0), (2, .int a1)]) hx hb dX0_wayFrom_81 hl (by decide) rfl (fun ls hl => ?_)
    refine lv_lload_n hx hb dX0_wayFrom_83 rfl (lv_at hl 1 rfl) ?_
    refine lv_lload hx hb dX0_wayFrom_84 (lv_at hl 0 rfl) ?_
    refine va_mmin_long hx hb (C.2.2.1.trans hl.1.symm) C.2.2.2.1 (xs_kts C _ w_1311) (xs_kts C _ w_1312) (xs_kts C _ w_125) (xs_kts C _ w_1313) (Nat.le_of_ble_eq_true rfl) (Nat.le_of_ble_eq_true rfl) (Nat.zero_le _) (Nat.zero_le _) dX0_wayFrom_86 ?_
    have ho := Option.some.inj hf
    subst ho
    rw [hQq]
    exact xs_lret C hr hlk hP hD hS dX0_wayFrom_89
  · replace hf := xsBr_t c3 hf
    refine lv_aload_n hx hb dX0_wayFrom_8 rfl (lv_at hl 0 rfl) ?_
    refine xg_X0_37 C hP dX0_wayFrom_9 ?_
    refine lv_iload_n hx hb dX0_wayFrom_12 rfl (lv_at hl 1 rfl) ?_
    refine lv_i2l hx hb dX0_wayFrom_13 rfl ?_
    refine lv_aload_n hx hb dX0_wayFrom_14 rfl (lv_at hl 0 rfl) ?_
    refine xg_X0_13 C hP dX0_wayFrom_15 ?_
    refine lv_lmul hx hb dX0_wayFrom_18 ?_
    refine lv_lsub hx hb dX0_wayFrom_19 ?_
    refine va_mabs_long hx hb (C.2.2.1.trans hl.1.symm) C.2.2.2.1 (xs_kts C _ w_1307) (xs_kts C _ w_763) (xs_kts C _ w_125) (xs_kts C _ w_764) (Nat.le_of_ble_eq_true rfl) (Nat.le_of_ble_eq_true rfl) (Nat.zero_le _) (Nat.zero_le _) dX0_wayFrom_20 ?_
    refine lv_aload_n hx hb dX0_wayFrom_23 rfl (lv_at hl 0 rfl) ?_
    refine xg_X0_40 C hP dX0_wayFrom_24 ?_
    refine lv_iload_n hx hb dX0_wayFrom_27 rfl (lv_at hl 2 rfl) ?_
    refine lv_i2l hx hb dX0_wayFrom_28 rfl ?_
    refine lv_aload_n hx hb dX0_wayFrom_29 rfl (lv_at hl 0 rfl) ?_
    refine xg_X0_13 C hP dX0_wayFrom_30 ?_
    refine lv_lmul hx hb dX0_wayFrom_33 ?_
    refine lv_lsub hx hb dX0_wayFrom_34 ?_
    refine va_mabs_long hx hb (C.2.2.1.trans hl.1.symm) C.2.2.2.1 (xs_kts C _ w_1307) (xs_kts C _ w_763) (xs_kts C _ w_125) (xs_kts C _ w_764) (Nat.le_of_ble_eq_true rfl) (Nat.le_of_ble_eq_true rfl) (Nat.zero_le _) (Nat.zero_le _) dX0_wayFrom_35 ?_
    refine lv_ladd hx hb dX0_wayFrom_38 ?_
    have ho := Option.some.inj hf
    subst ho
    rw [hQq]
    exact xs_lret C hr hlk hP hD hS dX0_wayFrom_39
set_option maxRecDepth 100000 in
set_option maxHeartbeats 8000000 in
theorem mX1_clear (l : Launch) {X : xsX} {kIsKept kIsStale hiLatest hiSize scLength scFault scAt scNumber piSegmentsNow enKind enFromX enFromY enToX enToY tiMeetingPairs tiAlongPairs tiSize evSize evCrossings evSegmentsNow grEdges grQueued huSize huBestX huBestY : Int32} {scBytes scTold tiTouching tiLyingAlong evBundle evCrossingOf evEventOf evLeftEvent evRightEvent grDegree grFar grQueue huX huY : Nat → Int32} {enX enY enLower : Int64} {evX evY evLower : Nat → Int64} {S : Nat → xsV} {Rw : va_W} {out : Int32 × Int32 × Int32} (hf : fX1_clear evSize evCrossings evSegmentsNow = some out) : Met l yX1_clear (xsWs yX1_clear cX1_clear 1 none) { frames := 0, cells := 0, slots := 0, locals := 0 } (xsP X (wK X kIsKept kIsStale hiLatest hiSize scBytes scTold scLength scFault scAt scNumber piSegmentsNow enKind enX enY enLower enFromX enFromY enToX enToY tiTouching tiLyingAlong tiMeetingPairs tiAlongPairs tiSize evX evY evLower evBundle evCrossingOf evEventOf evLeftEvent evRightEvent evSize evCrossings evSegmentsNow grDegree grEdges grFar grQueue grQueued huX huY huSize huBestX huBestY S Rw) [.ref (xsA X 11)]) (xsQv X (wK X kIsKept kIsStale hiLatest hiSize scBytes scTold scLength scFault scAt scNumber piSegmentsNow enKind enX enY enLower enFromX enFromY enToX enToY tiTouching tiLyingAlong tiMeetingPairs tiAlongPairs tiSize evX evY evLower evBundle evCrossingOf evEventOf evLeftEvent evRightEvent out.1 out.2.1 out.2.2 grDegree grEdges grFar grQueue grQueued huX huY huSize huBestX huBestY S Rw)) 0 0 (xsF X) := by
  refine xs_meth RX1 (by decide) rfl (Nat.le_of_ble_eq_true rfl) ?_
  intro p e s m below meth c ls H locs C hP hD hS hr hlk hl
  have hx := C.1
  have hb := C.2.1
  have hl : lv_has ls 1 [(0, .ref (xsA X 11))] := hl
  obtain ⟨Qq, hQq⟩ : ∃ Qq, Qq = xsQv X (wK X kIsKept kIsStale hiLatest hiSize scBytes scTold scLength scFault scAt scNumber piSegmentsNow enKind enX enY enLower enFromX enFromY enToX enToY tiTouching tiLyingAlong tiMeetingPairs tiAlongPairs tiSize evX evY evLower evBundle evCrossingOf evEventOf evLeftEvent evRightEvent out.1 out.2.1 out.2.2 grDegree grEdges grFar grQueue grQueued huX huY huSize huBestX huBestY S Rw) := ⟨_, rfl⟩
  rw [← hQq]
  unfold fX1_clear at hf
  refine lv_aload_n hx hb dX1_clear_0 rfl (lv_at hl 0 rfl) ?_
  refine lv_iconst (v := (0 : Int32)) hx hb dX1_clear_1 (by decide) ?_
  refine xp_X1_37 C hP hD hS dX1_clear_2 (fun H locs hP hD hS => ?_)
  refine lv_aload_n hx hb dX1_clear_5 rfl (lv_at hl 0 rfl) ?_
  refine lv_iconst (v := (0 : Int32)) hx hb dX1_clear_6 (by decide) ?_
  refine xp_X1_41 C hP hD hS dX1_clear_7 (fun H locs hP hD hS => ?_)
  refine lv_aload_n hx hb dX1_clear_10 rfl (lv_at hl 0 rfl) ?_
  refine lv_iconst (v := (0 : Int32)) hx hb dX1_clear_11 (by decide) ?_
  refine xp_X1_44 C hP hD hS dX1_clear_12 (fun H locs hP hD hS => ?_)
  have ho := Option.some.inj hf
  subst ho
  rw [hQq]
  exact xs_vret C hr hlk hP hD hS dX1_clear_15
set_option maxRecDepth 100000 in
set_option maxHeartbeats 8000000 in
theorem mJ13_compare_74951 (l : Launch) {X : xsX} {w : va_W} {a0 : Int64} {a1 : Int64} {out : Int32} (hf : fJ13_compare_74951 a0 a1 = some out) : Met l yJ13_compare_74951 (xsWs yJ13_compare_74951 cJ13_compare_74951 4 (some .int)) { frames := 0, cells := 0, slots := 0, locals := 0 } (xsP X (w) [.long a0, .long a1]) (xsQi X out (w)) 0 0 (xsF X) := by
  refine xs_meth RJ13 (by decide) rfl (Nat.le_of_ble_eq_true rfl) ?_
  intro p e s m below meth c ls H locs C hP hD hS hr hlk hl
  have hx := C.1
  have hb := C.2.1
  have hl : lv_has ls 4 [(0, .long a0), (2, .long a1)] := hl
  obtain ⟨Qq, hQq⟩ : ∃ Qq, Qq = xsQi X out (w) := ⟨_, rfl⟩
  rw [← hQq]
  unfold fJ13_compare_74951 at hf
  refine lv_lload_n hx hb dJ13_compare_74951_0 rfl (lv_at hl 0 rfl) ?_
  refine lv_lload_n hx hb dJ13_compare_74951_1 rfl (lv_at hl 1 rfl) ?_
  refine xs_lcmp_ge (tgt := 10) C dJ13_compare_74951_2 dJ13_compare_74951_3 (by decide) (fun c2 => ?_) (fun c2 => ?_)
  · replace hf := xsBr_t c2 hf
    refine lv_lload_n hx hb dJ13_compare_74951_10 rfl (lv_at hl 0 rfl) ?_
    refine lv_lload_n hx hb dJ13_compare_74951_11 rfl (lv_at hl 1 rfl) ?_
    refine xs_lcmp_ne (tgt := 20) C dJ13_compare_74951_12 dJ13_compare_74951_13 (by decide) (fun c1 => ?_) (fun c1 => ?_)
    · replace hf := xsBr_f c1 hf
      refine lv_iconst (v := (1 : Int32)) hx hb dJ13_compare_74951_20 (by decide) ?_
      have ho := Option.some.inj hf
      subst ho
      rw [hQq]
      exact xs_iret C hr hlk hP hD hS dJ13_compare_74951_21
    · replace hf := xsBr_t c1 hf
      refine lv_iconst (v := (0 : Int32)) hx hb dJ13_compare_74951_16 (by decide) ?_
      refine lv_goto (tgt := 21) hx hb dJ13_compare_74951_17 (by decide) ?_
      have ho := Option.some.inj hf
      subst ho
      rw [hQq]
      exact xs_iret C hr hlk hP hD hS dJ13_compare_74951_21
  · replace hf := xsBr_f c2 hf
    refine lv_iconst (v := (-1 : Int32)) hx hb dJ13_compare_74951_6 (by decide) ?_
    refine lv_goto (tgt := 21) hx hb dJ13_compare_74951_7 (by decide) ?_
    have ho := Option.some.inj hf
    subst ho
    rw [hQq]
    exact xs_iret C hr hlk hP hD hS dJ13_compare_74951_21
set_option maxRecDepth 100000 in
set_option maxHeartbeats 8000000 in
theorem mX1_compare (l : Launch) {X : xsX} {kIsKept kIsStale hiLatest hiSize scLength scFault scAt scNumber piSegmentsNow enKind enFromX enFromY enToX enToY tiMeetingPairs tiAlongPairs tiSize evSize evCrossings evSegmentsNow grEdges grQueued huSize huBestX huBestY : Int32} {scBytes scTold tiTouching tiLyingAlong evBundle evCrossingOf evEventOf evLeftEvent evRightEvent grDegree grFar grQueue huX huY : Nat → Int32} {enX enY enLower : Int64} {evX evY evLower : Nat → Int64} {S : Nat → xsV} {Rw : va_W} {a0 : Int32} {a1 : Int64} {a2 : Int64} {a3 : Int64} {out : Int32} (hf : fX1_compare evX evY evLower a0 a1 a2 a3 = some out) : Met l yX1_compare (xsWs yX1_compare cX1_compare 9 (some .int)) { frames := 1, cells := 0, slots := 0, locals := 23 } (xsP X (wK X kIsKept kIsStale hiLatest hiSize scBytes scTold scLength scFault scAt scNumber piSegmentsNow enKind enX enY enLower enFromX enFromY enToX enToY tiTouching tiLyingAlong tiMeetingPairs tiAlongPairs tiSize evX evY evLower evBundle evCrossingOf evEventOf evLeftEvent evRightEvent evSize evCrossings evSegmentsNow grDegree grEdges grFar grQueue grQueued huX huY huSize huBestX huBestY S Rw) [.ref (xsA X 11), .int a0, .long a1, .long a2, .long a3]) (xsQi X out (wK X kIsKept kIsStale hiLatest hiSize scBytes scTold scLength scFault scAt scNumber piSegmentsNow enKind enX enY enLower enFromX enFromY enToX enToY tiTouching tiLyingAlong tiMeetingPairs tiAlongPairs tiSize evX evY evLower evBundle evCrossingOf evEventOf evLeftEvent evRightEvent evSize evCrossings evSegmentsNow grDegree grEdges grFar grQueue grQueued huX huY huSize huBestX huBestY S Rw)) 0 0 (xsF X) := by
  refine xs_meth RX1 (by decide) rfl (Nat.le_of_ble_eq_true rfl) ?_
  intro p e s m below meth c ls H locs C hP hD hS hr hlk hl
  have hx := C.1
  have hb := C.2.1
  have hl : lv_has ls 9 [(0, .ref (xsA X 11)), (1, .int a0), (2, .long a1), (4, .long a2), (6, .long a3)] := hl
  obtain ⟨Qq, hQq⟩ : ∃ Qq, Qq = xsQi X out (wK X kIsKept kIsStale hiLatest hiSize scBytes scTold scLength scFault scAt scNumber piSegmentsNow enKind enX enY enLower enFromX enFromY enToX enToY tiTouching tiLyingAlong tiMeetingPairs tiAlongPairs tiSize evX evY evLower evBundle evCrossingOf evEventOf evLeftEvent evRightEvent evSize evCrossings evSegmentsNow grDegree grEdges grFar grQueue grQueued huX huY huSize huBestX huBestY S Rw) := ⟨_, rfl⟩
  rw [← hQq]
  unfold fX1_compare at hf
  refine lv_aload_n hx hb dX1_compare_0 rfl (lv_at hl 0 rfl) ?_
  refine xg_X1_9 C hP dX1_compare_1 ?_
  refine lv_iload_n hx hb dX1_compare_4 rfl (lv_at hl 1 rfl) ?_
  replace hf := xsCk_use hf
  obtain ⟨h1, hf⟩ := hf
  refine xl_evX C hP h1 dX1_compare_5 ?_
  refine lv_lload hx hb dX1_compare_6 (lv_at hl 4 rfl) ?_
  refine lv_lmul hx hb dX1_compare_8 ?_
  refine lv_lload_n hx hb dX1_compare_9 rfl (lv_at hl 2 rfl) ?_
  refine lv_aload_n hx hb dX1_compare_10 rfl (lv_at hl 0 rfl) ?_
  refine xg_X1_18 C hP dX1_compare_11 ?_
  refine lv_iload_n hx hb dX1_compare_14 rfl (lv_at hl 1 rfl) ?_
  replace hf := xsCk_use hf
  obtain ⟨h2, hf⟩ := hf
  refine xl_evLower C hP h2 dX1_compare_15 ?_
  refine lv_lmul hx hb dX1_compare_16 ?_
  replace hf := xsBd_use hf
  obtain ⟨o3, h4, hf⟩ := hf
  refine xs_calli hS (xs_runS (As := [.long ((evX a0.toNatClampNeg) * a3), .long (a1 * (evLower a0.toNatClampNeg))]) C (mJ13_compare_74951 l  h4) w_563 w_564 w_127 w_565 hd_J13_compare_74951 ⟨rfl, rfl, Nat.le_of_ble_eq_true rfl, Nat.le_of_ble_eq_true rfl, Nat.zero_le _, Nat.zero_le _⟩ hP hD hS hl.1 rfl (Nat.le_of_ble_eq_true rfl) dX1_compare_17) (fun H locs hP hD hS => ?_)
  refine lv_istore (lv' := [(8, .int o3), (0, .ref (xsA X 11)), (1, .int a0), (2, .long a1), (4, .long a2), (6, .long a3)]) hx hb dX1_compare_20 hl (by decide) rfl (fun ls hl => ?_)
  refine lv_iload hx hb dX1_compare_22 (lv_at hl 0 rfl) ?_
  refine lv_if_eq (tgt := 32) hx hb dX1_compare_24 (by decide) (fun c9 => ?_) (fun c9 => ?_)
  · replace hf := xsBr_t c9 hf
    refine lv_aload_n hx hb dX1_compare_32 rfl (lv_at hl 1 rfl) ?_
    refine xg_X1_15 C hP dX1_compare_33 ?_
    refine lv_iload_n hx hb dX1_compare_36 rfl (lv_at hl 2 rfl) ?_
    replace hf := xsCk_use hf
    obtain ⟨h5, hf⟩ := hf
    refine xl_evY C hP h5 dX1_compare_37 ?_
    refine lv_lload hx hb dX1_compare_38 (lv_at hl 5 rfl) ?_
    refine lv_lmul hx hb dX1_compare_40 ?_
    refine lv_lload hx hb dX1_compare_41 (lv_at hl 4 rfl) ?_
    refine lv_aload_n hx hb dX1_compare_43 rfl (lv_at hl 1 rfl) ?_
    refine xg_X1_18 C hP dX1_compare_44 ?_
    refine lv_iload_n hx hb dX1_compare_47 rfl (lv_at hl 2 rfl) ?_
    replace hf := xsCk_use hf
    obtain ⟨h6, hf⟩ := hf
    refine xl_evLower C hP h6 dX1_compare_48 ?_
    refine lv_lmul hx hb dX1_compare_49 ?_
    replace hf := xsBd_use hf
    obtain ⟨o7, h8, hf⟩ := hf
    refine xs_calli hS (xs_runS (As := [.long ((evY a0.toNatClampNeg) * a3), .long (a2 * (evLower a0.toNatClampNeg))]) C (mJ13_compare_74951 l  h8) w_563 w_564 w_127 w_565 hd_J13_compare_74951 ⟨rfl, rfl, Nat.le_of_ble_eq_true rfl, Nat.le_of_ble_eq_true rfl, Nat.zero_le _, Nat.zero_le _⟩ hP hD hS hl.1 rfl (Nat.le_of_ble_eq_true rfl) dX1_compare_50) (fun H locs hP hD hS => ?_)
    have ho := Option.some.inj hf
    subst ho
    rw [hQq]
    exact xs_iret C hr hlk hP hD hS dX1_compare_53
  · replace hf := xsBr_f c9 hf
    refine lv_iload hx hb dX1_compare_27 (lv_at hl 0 rfl) ?_
    refine lv_goto (tgt := 53) hx hb dX1_compare_29 (by decide) ?_
    have ho := Option.some.inj hf
    subst ho
    rw [hQq]
    exact xs_iret C hr hlk hP hD hS dX1_compare_53
set_option maxRecDepth 100000 in
set_option maxHeartbeats 8000000 in
theorem mX1_placeOf (l : Launch) {X : xsX} {kIsKept kIsStale hiLatest hiSize scLength scFault scAt scNumber piSegmentsNow enKind enFromX enFromY enToX enToY tiMeetingPairs tiAlongPairs tiSize evSize evCrossings evSegmentsNow grEdges grQueued huSize huBestX huBestY : Int32} {scBytes scTold tiTouching tiLyingAlong evBundle evCrossingOf evEventOf evLeftEvent evRightEvent grDegree grFar grQueue huX huY : Nat → Int32} {enX enY enLower : Int64} {evX evY evLower : Nat → Int64} {S : Nat → xsV} {Rw : va_W} {a0 : Int64} {a1 : Int64} {a2 : Int64} {out : Int32} (hf : fX1_placeOf evX evY evLower evSize a0 a1 a2 = some out) : Met l yX1_placeOf (xsWs yX1_placeOf cX1_placeOf 11 (some .int)) { frames := 2, cells := 0, slots := 0, locals := 51 } (xsP X (wK X kIsKept kIsStale hiLatest hiSize scBytes scTold scLength scFault scAt scNumber piSegmentsNow enKind enX enY enLower enFromX enFromY enToX enToY tiTouching tiLyingAlong tiMeetingPairs tiAlongPairs tiSize evX evY evLower evBundle evCrossingOf evEventOf evLeftEvent evRightEvent evSize evCrossings evSegmentsNow grDegree grEdges grFar grQueue grQueued huX huY huSize huBestX huBestY S Rw) [.ref (xsA X 11), .long a0, .long a1, .long a2]) (xsQi X out (wK X kIsKept kIsStale hiLatest hiSize scBytes scTold scLength scFault scAt scNumber piSegmentsNow enKind enX enY enLower enFromX enFromY enToX enToY tiTouching tiLyingAlong tiMeetingPairs tiAlongPairs tiSize evX evY evLower evBundle evCrossingOf evEventOf evLeftEvent evRightEvent evSize evCrossings evSegmentsNow grDegree grEdges grFar grQueue grQueued huX huY huSize huBestX huBestY S Rw)) 0 0 (xsF X) := by
  refine xs_meth RX1 (by decide) rfl (Nat.le_of_ble_eq_true rfl) ?_
  intro p e s m below meth c ls H locs C hP hD hS hr hlk hl
  have hx := C.1
  have hb := C.2.1
  have hl : lv_has ls 11 [(0, .ref (xsA X 11)), (1, .long a0), (3, .long a1), (5, .long a2)] := hl
  obtain ⟨Qq, hQq⟩ : ∃ Qq, Qq = xsQi X out (wK X kIsKept kIsStale hiLatest hiSize scBytes scTold scLength scFault scAt scNumber piSegmentsNow enKind enX enY enLower enFromX enFromY enToX enToY tiTouching tiLyingAlong tiMeetingPairs tiAlongPairs tiSize evX evY evLower evBundle evCrossingOf evEventOf evLeftEvent evRightEvent evSize evCrossings evSegmentsNow grDegree grEdges grFar grQueue grQueued huX huY huSize huBestX huBestY S Rw) := ⟨_, rfl⟩
  rw [← hQq]
  unfold fX1_placeOf at hf
  refine lv_iconst (v := (0 : Int32)) hx hb dX1_placeOf_0 (by decide) ?_
  refine lv_istore (lv' := [(7, .int (0 : Int32)), (0, .ref (xsA X 11)), (1, .long a0), (3, .long a1), (5, .long a2)]) hx hb dX1_placeOf_1 hl (by decide) rfl (fun ls hl => ?_)
  refine lv_aload_n hx hb dX1_placeOf_3 rfl (lv_at hl 1 rfl) ?_
  refine xg_X1_37 C hP dX1_placeOf_4 ?_
  refine lv_istore (lv' := [(8, .int evSize), (7, .int (0 : Int32)), (0, .ref (xsA X 11)), (1, .long a0), (3, .long a1), (5, .long a2)]) hx hb dX1_placeOf_7 hl (by decide) rfl (fun ls hl => ?_)
  refine lv_iconst (v := (0 : Int32)) hx hb dX1_placeOf_9 (by decide) ?_
  refine lv_istore (lv' := [(9, .int (0 : Int32)), (8, .int evSize), (7, .int (0 : Int32)), (0, .ref (xsA X 11)), (1, .long a0), (3, .long a1), (5, .long a2)]) hx hb dX1_placeOf_10 hl (by decide) rfl (fun ls hl => ?_)
  have K4 : ∀ (y5 : Int32) (hf : fX1_placeOf_J68 y5 = some out) (H : Heap) (locs : List Loc) (ls : Array Slot), va_P (xsD X) vwCl (wK X kIsKept kIsStale hiLatest hiSize scBytes scTold scLength scFault scAt scNumber piSegmentsNow enKind enX enY enLower enFromX enFromY enToX enToY tiTouching tiLyingAlong tiMeetingPairs tiAlongPairs tiSize evX evY evLower evBundle evCrossingOf evEventOf evLeftEvent evRightEvent evSize evCrossings evSegmentsNow grDegree grEdges grFar grQueue grQueued huX huY huSize huBestX huBestY S Rw) H → va_D (xsF X) (wK X kIsKept kIsStale hiLatest hiSize scBytes scTold scLength scFault scAt scNumber piSegmentsNow enKind enX enY enLower enFromX enFromY enToX enToY tiTouching tiLyingAlong tiMeetingPairs tiAlongPairs tiSize evX evY evLower evBundle evCrossingOf evEventOf evLeftEvent evRightEvent evSize evCrossings evSegmentsNow grDegree grEdges grFar grQueue grQueued huX huY huSize huBestX huBestY S Rw) → va_S (xsF X) s.heap H locs → lv_has ls 11 [(7, .int y5)] → W p l e { frames := 2, cells := 0, slots := 0, locals := 51 } s m ([.ref (xsA X 11), .long a0, .long a1, .long a2] : List Value).toArray below meth c H locs 0 0 (MQ below Qq ([.ref (xsA X 11), .long a0, .long a1, .long a2] : List Value).toArray s 0 0 (xsF X)) (F0 m 68 ls []) := by
    intro y5 hf H locs ls hP hD hS hl
    unfold fX1_placeOf_J68 at hf
    refine lv_iload hx hb dX1_placeOf_68 (lv_at hl 0 rfl) ?_
    have ho := Option.some.inj hf
    subst ho
    rw [hQq]
    exact xs_iret C hr hlk hP hD hS dX1_placeOf_70
  replace hf := xsBd_use hf
  obtain ⟨r4, hk40, hf⟩ := hf
  have L4 : ∀ (sg : Int32 × Int32 × Int32) (rg : Int32), xsWh (fun s4 => fX1_placeOf_L12 evX evY evLower a0 a1 a2 s4.1 s4.2.1 s4.2.2) sg = some rg → (fX1_placeOf_J68 rg = some out → ∀ (H : Heap) (locs : List Loc) (ls : Array Slot), va_P (xsD X) vwCl (wK X kIsKept kIsStale hiLatest hiSize scBytes scTold scLength scFault scAt scNumber piSegmentsNow enKind enX enY enLower enFromX enFromY enToX enToY tiTouching tiLyingAlong tiMeetingPairs tiAlongPairs tiSize evX evY evLower evBundle evCrossingOf evEventOf evLeftEvent evRightEvent evSize evCrossings evSegmentsNow grDegree grEdges grFar grQueue grQueued huX huY huSize huBestX huBestY S Rw) H → va_D (xsF X) (wK X kIsKept kIsStale hiLatest hiSize scBytes scTold scLength scFault scAt scNumber piSegmentsNow enKind enX enY enLower enFromX enFromY enToX enToY tiTouching tiLyingAlong tiMeetingPairs tiAlongPairs tiSize evX evY evLower evBundle evCrossingOf evEventOf evLeftEvent evRightEvent evSize evCrossings evSegmentsNow grDegree grEdges grFar grQueue grQueued huX huY huSize huBestX huBestY S Rw) → va_S (xsF X) s.heap H locs → lv_has ls 11 [(0, .ref (xsA X 11)), (1, .long a0), (3, .long a1), (5, .long a2), (7, .int sg.1), (8, .int sg.2.1), (9, .int sg.2.2)] → W p l e { frames := 2, cells := 0, slots := 0, locals := 51 } s m ([.ref (xsA X 11), .long a0, .long a1, .long a2] : List Value).toArray below meth c H locs 0 0 (MQ below Qq ([.ref (xsA X 11), .long a0, .long a1, .long a2] : List Value).toArray s 0 0 (xsF X)) (F0 m 12 ls [])) := by
    refine xsWh_ind ?_
    intro sg r4 u4 hf ih4 hx4 hk4 H locs ls hP hD hS hl
    obtain ⟨y1, y2, y3⟩ := sg
    replace hf : fX1_placeOf_L12 evX evY evLower a0 a1 a2 y1 y2 y3 = some u4 := hf
    replace hl : lv_has ls 11 [(0, .ref (xsA X 11)), (1, .long a0), (3, .long a1), (5, .long a2), (7, .int y1), (8, .int y2), (9, .int y3)] := hl
    replace hP : va_P (xsD X) vwCl (wK X kIsKept kIsStale hiLatest hiSize scBytes scTold scLength scFault scAt scNumber piSegmentsNow enKind enX enY enLower enFromX enFromY enToX enToY tiTouching tiLyingAlong tiMeetingPairs tiAlongPairs tiSize evX evY evLower evBundle evCrossingOf evEventOf evLeftEvent evRightEvent evSize evCrossings evSegmentsNow grDegree grEdges grFar grQueue grQueued huX huY huSize huBestX huBestY S Rw) H := hP
    replace hD : va_D (xsF X) (wK X kIsKept kIsStale hiLatest hiSize scBytes scTold scLength scFault scAt scNumber piSegmentsNow enKind enX enY enLower enFromX enFromY enToX enToY tiTouching tiLyingAlong tiMeetingPairs tiAlongPairs tiSize evX evY evLower evBundle evCrossingOf evEventOf evLeftEvent evRightEvent evSize evCrossings evSegmentsNow grDegree grEdges grFar grQueue grQueued huX huY huSize huBestX huBestY S Rw) := hD
    unfold fX1_placeOf_L12 at hf
    refine lv_iload hx hb dX1_placeOf_12 (lv_at hl 6 rfl) ?_
    refine lv_sipush (v := (128 : Int32)) hx hb dX1_placeOf_14 (by decide) ?_
    refine lv_icmp_ge (tgt := 68) hx hb dX1_placeOf_17 (by decide) (fun c18 => ?_) (fun c18 => ?_)
    · replace hf := xsBr_t c18 hf
      have ez := hx4 _ (Option.some.inj hf).symm
      subst ez
      exact K4 y1 hk4 H locs ls hP hD hS (lv_sub hl [4] rfl)
    · replace hf := xsBr_f c18 hf
      refine lv_iload hx hb dX1_placeOf_20 (lv_at hl 4 rfl) ?_
      refine lv_iload hx hb dX1_placeOf_22 (lv_at hl 5 rfl) ?_
      refine lv_icmp_ge (tgt := 68) hx hb dX1_placeOf_24 (by decide) (fun c17 => ?_) (fun c17 => ?_)
      · replace hf := xsBr_t c17 hf
        have ez := hx4 _ (Option.some.inj hf).symm
        subst ez
        exact K4 y1 hk4 H locs ls hP hD hS (lv_sub hl [4] rfl)
      · replace hf := xsBr_f c17 hf
        refine lv_iload hx hb dX1_placeOf_27 (lv_at hl 4 rfl) ?_
        refine lv_iload hx hb dX1_placeOf_29 (lv_at hl 5 rfl) ?_
        refine lv_iadd hx hb dX1_placeOf_31 ?_
        refine lv_iconst (v := (1 : Int32)) hx hb dX1_placeOf_32 (by decide) ?_
        refine lv_ishr hx hb dX1_placeOf_33 ?_
        refine lv_topi (fun x6 ex6 => ?_)
        replace hf := xsLt_use ex6 hf
        refine lv_istore (lv' := [(10, .int x6), (0, .ref (xsA X 11)), (1, .long a0), (3, .long a1), (5, .long a2), (7, .int y1), (8, .int y2), (9, .int y3)]) hx hb dX1_placeOf_34 hl (by decide) rfl (fun ls hl => ?_)
        refine lv_aload_n hx hb dX1_placeOf_36 rfl (lv_at hl 1 rfl) ?_
        refine lv_iload hx hb dX1_placeOf_37 (lv_at hl 0 rfl) ?_
        refine lv_lload_n hx hb dX1_placeOf_39 rfl (lv_at hl 2 rfl) ?_
        refine lv_lload_n hx hb dX1_placeOf_40 rfl (lv_at hl 3 rfl) ?_
        refine lv_lload hx hb dX1_placeOf_41 (lv_at hl 4 rfl) ?_
        replace hf := xsBd_use hf
        obtain ⟨o7, h8, hf⟩ := hf
        refine xs_calli hS (xs_runV (As := [.int x6, .long a0, .long a1, .long a2]) C (mX1_compare l  h8) w_559 w_561 w_4 w_112 w_562 hd_X1_compare ⟨rfl, rfl, Nat.le_of_ble_eq_true rfl, Nat.le_of_ble_eq_true rfl, Nat.zero_le _, Nat.zero_le _⟩ hP hD hS lk_X1 rfl hl.1 rfl (Nat.le_of_ble_eq_true rfl) dX1_placeOf_43) (fun H locs hP hD hS => ?_)
        have K14 : ∀ (y9 : Int32) (y10 : Int32) (hf : fX1_placeOf_J62 y3 y9 y10 = some u4) (H : Heap) (locs : List Loc) (ls : Array Slot), va_P (xsD X) vwCl (wK X kIsKept kIsStale hiLatest hiSize scBytes scTold scLength scFault scAt scNumber piSegmentsNow enKind enX enY enLower enFromX enFromY enToX enToY tiTouching tiLyingAlong tiMeetingPairs tiAlongPairs tiSize evX evY evLower evBundle evCrossingOf evEventOf evLeftEvent evRightEvent evSize evCrossings evSegmentsNow grDegree grEdges grFar grQueue grQueued huX huY huSize huBestX huBestY S Rw) H → va_D (xsF X) (wK X kIsKept kIsStale hiLatest hiSize scBytes scTold scLength scFault scAt scNumber piSegmentsNow enKind enX enY enLower enFromX enFromY enToX enToY tiTouching tiLyingAlong tiMeetingPairs tiAlongPairs tiSize evX evY evLower evBundle evCrossingOf evEventOf evLeftEvent evRightEvent evSize evCrossings evSegmentsNow grDegree grEdges grFar grQueue grQueued huX huY huSize huBestX huBestY S Rw) → va_S (xsF X) s.heap H locs → lv_has ls 11 [(0, .ref (xsA X 11)), (1, .long a0), (3, .long a1), (5, .long a2), (7, .int y9), (8, .int y10), (9, .int y3)] → W p l e { frames := 2, cells := 0, slots := 0, locals := 51 } s m ([.ref (xsA X 11), .long a0, .long a1, .long a2] : List Value).toArray below meth c H locs 0 0 (MQ below Qq ([.ref (xsA X 11), .long a0, .long a1, .long a2] : List Value).toArray s 0 0 (xsF X)) (F0 m 62 ls []) := by
          intro y9 y10 hf H locs ls hP hD hS hl
          unfold fX1_placeOf_J62 at hf
          obtain ⟨x11, ex11⟩ : ∃ y : Int32, y = y3 + (1 : Int32) := ⟨_, rfl⟩
          replace hf := xsLt_use ex11 hf
          refine lv_iinc (v := x11) (lv' := [(9, .int x11), (0, .ref (xsA X 11)), (1, .long a0), (3, .long a1), (5, .long a2), (7, .int y9), (8, .int y10)]) hx hb dX1_placeOf_62 hl (k := 6) rfl (by rw [ex11]; rfl) (by decide) rfl (fun ls hl => ?_)
          refine lv_goto (tgt := 12) hx hb dX1_placeOf_65 (by decide) ?_
          exact ih4 _ (Option.some.inj hf).symm hk4 H locs ls hP hD hS (lv_sub hl [1, 2, 3, 4, 5, 6, 0] rfl)
        replace hf := xsBd_use hf
        obtain ⟨v12, hf, hk13⟩ := hf
        refine lv_if_ge (tgt := 58) hx hb dX1_placeOf_46 (by decide) (fun c16 => ?_) (fun c16 => ?_)
        · replace hf := xsBr_t c16 hf
          refine lv_iload hx hb dX1_placeOf_58 (lv_at hl 0 rfl) ?_
          refine lv_istore (lv' := [(8, .int x6), (10, .int x6), (0, .ref (xsA X 11)), (1, .long a0), (3, .long a1), (5, .long a2), (7, .int y1), (9, .int y3)]) hx hb dX1_placeOf_60 hl (by decide) rfl (fun ls hl => ?_)
          have ev := Option.some.inj hf
          subst ev
          exact K14 y1 x6 hk13 H locs ls hP hD hS (lv_sub hl [2, 3, 4, 5, 6, 0, 7] rfl)
        · replace hf := xsBr_f c16 hf
          refine lv_iload hx hb dX1_placeOf_49 (lv_at hl 0 rfl) ?_
          refine lv_iconst (v := (1 : Int32)) hx hb dX1_placeOf_51 (by decide) ?_
          refine lv_iadd hx hb dX1_placeOf_52 ?_
          refine lv_topi (fun x15 ex15 => ?_)
          replace hf := xsLt_use ex15 hf
          refine lv_istore (lv' := [(7, .int x15), (10, .int x6), (0, .ref (xsA X 11)), (1, .long a0), (3, .long a1), (5, .long a2), (8, .int y2), (9, .int y3)]) hx hb dX1_placeOf_53 hl (by decide) rfl (fun ls hl => ?_)
          refine lv_goto (tgt := 62) hx hb dX1_placeOf_55 (by decide) ?_
          have ev := Option.some.inj hf
          subst ev
          exact K14 x15 y2 hk13 H locs ls hP hD hS (lv_sub hl [2, 3, 4, 5, 0, 6, 7] rfl)
  exact L4 ((0 : Int32), evSize, (0 : Int32)) r4 hk40 hf H locs ls hP hD hS (lv_sub hl [3, 4, 5, 6, 2, 1, 0] rfl)
set_option maxRecDepth 100000 in
set_option maxHeartbeats 8000000 in
theorem mX1_insert (l : Launch) {X : xsX} {kIsKept kIsStale hiLatest hiSize scLength scFault scAt scNumber piSegmentsNow enKind enFromX enFromY enToX enToY tiMeetingPairs tiAlongPairs tiSize evSize evCrossings evSegmentsNow grEdges grQueued huSize huBestX huBestY : Int32} {scBytes scTold tiTouching tiLyingAlong evBundle evCrossingOf evEventOf evLeftEvent evRightEvent grDegree grFar grQueue huX huY : Nat → Int32} {enX enY enLower : Int64} {evX evY evLower : Nat → Int64} {S : Nat → xsV} {Rw : va_W} {a0 : Int64} {a1 : Int64} {a2 : Int64} {out : (Nat → Int64) × (Nat → Int64) × (Nat → Int64) × Int32} (hf : fX1_insert evX evY evLower evSize a0 a1 a2 = some out) : Met l yX1_insert (xsWs yX1_insert cX1_insert 10 none) { frames := 3, cells := 0, slots := 0, locals := 81 } (xsP X (wK X kIsKept kIsStale hiLatest hiSize scBytes scTold scLength scFault scAt scNumber piSegmentsNow enKind enX enY enLower enFromX enFromY enToX enToY tiTouching tiLyingAlong tiMeetingPairs tiAlongPairs tiSize evX evY evLower evBundle evCrossingOf evEventOf evLeftEvent evRightEvent evSize evCrossings evSegmentsNow grDegree grEdges grFar grQueue grQueued huX huY huSize huBestX huBestY S Rw) [.ref (xsA X 11), .long a0, .long a1, .long a2]) (xsQv X (wK X kIsKept kIsStale hiLatest hiSize scBytes scTold scLength scFault scAt scNumber piSegmentsNow enKind enX enY enLower enFromX enFromY enToX enToY tiTouching tiLyingAlong tiMeetingPairs tiAlongPairs tiSize out.1 out.2.1 out.2.2.1 evBundle evCrossingOf evEventOf evLeftEvent evRightEvent out.2.2.2 evCrossings evSegmentsNow grDegree grEdges grFar grQueue grQueued huX huY huSize huBestX huBestY S Rw)) 0 0 (xsF X) := by
  refine xs_meth RX1 (by decide) rfl (Nat.le_of_ble_eq_true rfl) ?_
  intro p e s m below meth c ls H locs C hP hD hS hr hlk hl
  have hx := C.1
  have hb := C.2.1
  have hl : lv_has ls 10 [(0, .ref (xsA X 11)), (1, .long a0), (3, .long a1), (5, .long a2)] := hl
  obtain ⟨Qq, hQq⟩ : ∃ Qq, Qq = xsQv X (wK X kIsKept kIsStale hiLatest hiSize scBytes scTold scLength scFault scAt scNumber piSegmentsNow enKind enX enY enLower enFromX enFromY enToX enToY tiTouching tiLyingAlong tiMeetingPairs tiAlongPairs tiSize out.1 out.2.1 out.2.2.1 evBundle evCrossingOf evEventOf evLeftEvent evRightEvent out.2.2.2 evCrossings evSegmentsNow grDegree grEdges grFar grQueue grQueued huX huY huSize huBestX huBestY S Rw) := ⟨_, rfl⟩
  rw [← hQq]
  unfold fX1_insert at hf
  refine lv_aload_n hx hb dX1_insert_0 rfl (lv_at hl 0 rfl) ?_
  refine lv_lload_n hx hb dX1_insert_1 rfl (lv_at hl 1 rfl) ?_
  refine lv_lload_n hx hb dX1_insert_2 rfl (lv_at hl 2 rfl) ?_
  refine lv_lload hx hb dX1_insert_3 (lv_at hl 3 rfl) ?_
  replace hf := xsBd_use hf
  obtain ⟨o1, h2, hf⟩ := hf
  refine xs_calli hS (xs_runV (As := [.long a0, .long a1, .long a2]) C (mX1_placeOf l  h2) w_555 w_557 w_3 w_112 w_558 hd_X1_placeOf ⟨rfl, rfl, Nat.le_of_ble_eq_true rfl, Nat.le_of_ble_eq_true rfl, Nat.zero_le _, Nat.zero_le _⟩ hP hD hS lk_X1 rfl hl.1 rfl (Nat.le_of_ble_eq_true rfl) dX1_insert_5) (fun H locs hP hD hS => ?_)
  refine lv_istore (lv' := [(7, .int o1), (0, .ref (xsA X 11)), (1, .long a0), (3, .long a1), (5, .long a2)]) hx hb dX1_insert_8 hl (by decide) rfl (fun ls hl => ?_)
  refine lv_iload hx hb dX1_insert_10 (lv_at hl 0 rfl) ?_
  refine lv_aload_n hx hb dX1_insert_12 rfl (lv_at hl 1 rfl) ?_
  refine xg_X1_37 C hP dX1_insert_13 ?_
  have K34 : ∀ (y3 : Int32) (hf : fX1_insert_J37 evX evY evLower evSize a0 a1 a2 o1 y3 = some out) (H : Heap) (locs : List Loc) (ls : Array Slot), va_P (xsD X) vwCl (wK X kIsKept kIsStale hiLatest hiSize scBytes scTold scLength scFault scAt scNumber piSegmentsNow enKind enX enY enLower enFromX enFromY enToX enToY tiTouching tiLyingAlong tiMeetingPairs tiAlongPairs tiSize evX evY evLower evBundle evCrossingOf evEventOf evLeftEvent evRightEvent evSize evCrossings evSegmentsNow grDegree grEdges grFar grQueue grQueued huX huY huSize huBestX huBestY S Rw) H → va_D (xsF X) (wK X kIsKept kIsStale hiLatest hiSize scBytes scTold scLength scFault scAt scNumber piSegmentsNow enKind enX enY enLower enFromX enFromY enToX enToY tiTouching tiLyingAlong tiMeetingPairs tiAlongPairs tiSize evX evY evLower evBundle evCrossingOf evEventOf evLeftEvent evRightEvent evSize evCrossings evSegmentsNow grDegree grEdges grFar grQueue grQueued huX huY huSize huBestX huBestY S Rw) → va_S (xsF X) s.heap H locs → lv_has ls 10 [(0, .ref (xsA X 11)), (1, .long a0), (3, .long a1), (5, .long a2), (7, .int o1)] → W p l e { frames := 3, cells := 0, slots := 0, locals := 81 } s m ([.ref (xsA X 11), .long a0, .long a1, .long a2] : List Value).toArray below meth c H locs 0 0 (MQ below Qq ([.ref (xsA X 11), .long a0, .long a1, .long a2] : List Value).toArray s 0 0 (xsF X)) (F0 m 37 ls [.int y3]) := by
    intro y3 hf H locs ls hP hD hS hl
    unfold fX1_insert_J37 at hf
    refine lv_istore (lv' := [(8, .int y3), (0, .ref (xsA X 11)), (1, .long a0), (3, .long a1), (5, .long a2), (7, .int o1)]) hx hb dX1_insert_37 hl (by decide) rfl (fun ls hl => ?_)
    refine lv_iload hx hb dX1_insert_39 (lv_at hl 0 rfl) ?_
    refine lv_if_ne (tgt := 54) hx hb dX1_insert_41 (by decide) (fun c31 => ?_) (fun c31 => ?_)
    · replace hf := xsBr_f c31 hf
      have ho := Option.some.inj hf
      subst ho
      rw [hQq]
      exact xs_vret C hr hlk hP hD hS dX1_insert_54
    · replace hf := xsBr_t c31 hf
      refine lv_aload_n hx hb dX1_insert_44 rfl (lv_at hl 1 rfl) ?_
      refine xg_X1_37 C hP dX1_insert_45 ?_
      refine lv_sipush (v := (324 : Int32)) hx hb dX1_insert_48 (by decide) ?_
      refine lv_icmp_lt (tgt := 55) hx hb dX1_insert_51 (by decide) (fun c30 => ?_) (fun c30 => ?_)
      · replace hf := xsBr_t c30 hf
        refine lv_aload_n hx hb dX1_insert_55 rfl (lv_at hl 1 rfl) ?_
        refine xg_X1_37 C hP dX1_insert_56 ?_
        refine lv_istore (lv' := [(9, .int evSize), (8, .int y3), (0, .ref (xsA X 11)), (1, .long a0), (3, .long a1), (5, .long a2), (7, .int o1)]) hx hb dX1_insert_59 hl (by decide) rfl (fun ls hl => ?_)
        have K8 : ∀ (y9 : Nat → Int64) (y10 : Nat → Int64) (y11 : Nat → Int64) (hf : fX1_insert_J122 evSize a0 a1 a2 o1 y9 y10 y11 = some out) (H : Heap) (locs : List Loc) (ls : Array Slot), va_P (xsD X) vwCl (wK X kIsKept kIsStale hiLatest hiSize scBytes scTold scLength scFault scAt scNumber piSegmentsNow enKind enX enY enLower enFromX enFromY enToX enToY tiTouching tiLyingAlong tiMeetingPairs tiAlongPairs tiSize y9 y10 y11 evBundle evCrossingOf evEventOf evLeftEvent evRightEvent evSize evCrossings evSegmentsNow grDegree grEdges grFar grQueue grQueued huX huY huSize huBestX huBestY S Rw) H → va_D (xsF X) (wK X kIsKept kIsStale hiLatest hiSize scBytes scTold scLength scFault scAt scNumber piSegmentsNow enKind enX enY enLower enFromX enFromY enToX enToY tiTouching tiLyingAlong tiMeetingPairs tiAlongPairs tiSize y9 y10 y11 evBundle evCrossingOf evEventOf evLeftEvent evRightEvent evSize evCrossings evSegmentsNow grDegree grEdges grFar grQueue grQueued huX huY huSize huBestX huBestY S Rw) → va_S (xsF X) s.heap H locs → lv_has ls 10 [(0, .ref (xsA X 11)), (1, .long a0), (3, .long a1), (5, .long a2), (7, .int o1)] → W p l e { frames := 3, cells := 0, slots := 0, locals := 81 } s m ([.ref (xsA X 11), .long a0, .long a1, .long a2] : List Value).toArray below meth c H locs 0 0 (MQ below Qq ([.ref (xsA X 11), .long a0, .long a1, .long a2] : List Value).toArray s 0 0 (xsF X)) (F0 m 122 ls []) := by
          intro y9 y10 y11 hf H locs ls hP hD hS hl
          unfold fX1_insert_J122 at hf
          refine lv_aload_n hx hb dX1_insert_122 rfl (lv_at hl 0 rfl) ?_
          refine xg_X1_9 C hP dX1_insert_123 ?_
          refine lv_iload hx hb dX1_insert_126 (lv_at hl 4 rfl) ?_
          refine lv_lload_n hx hb dX1_insert_128 rfl (lv_at hl 1 rfl) ?_
          replace hf := xsCk_use hf
          obtain ⟨h12, hf⟩ := hf
          refine xs_evX C hP hD hS h12 dX1_insert_129 (fun f13 ef13 H locs hP hD hS => ?_)
          replace hf := xsLt_use ef13 hf
          refine lv_aload_n hx hb dX1_insert_130 rfl (lv_at hl 0 rfl) ?_
          refine xg_X1_15 C hP dX1_insert_131 ?_
          refine lv_iload hx hb dX1_insert_134 (lv_at hl 4 rfl) ?_
          refine lv_lload_n hx hb dX1_insert_136 rfl (lv_at hl 2 rfl) ?_
          replace hf := xsCk_use hf
          obtain ⟨h14, hf⟩ := hf
          refine xs_evY C hP hD hS h14 dX1_insert_137 (fun f15 ef15 H locs hP hD hS => ?_)
          replace hf := xsLt_use ef15 hf
          refine lv_aload_n hx hb dX1_insert_138 rfl (lv_at hl 0 rfl) ?_
          refine xg_X1_18 C hP dX1_insert_139 ?_
          refine lv_iload hx hb dX1_insert_142 (lv_at hl 4 rfl) ?_
          refine lv_lload hx hb dX1_insert_144 (lv_at hl 3 rfl) ?_
          replace hf := xsCk_use hf
          obtain ⟨h16, hf⟩ := hf
          refine xs_evLower C hP hD hS h16 dX1_insert_146 (fun f17 ef17 H locs hP hD hS => ?_)
          replace hf := xsLt_use ef17 hf
          refine lv_aload_n hx hb dX1_insert_147 rfl (lv_at hl 0 rfl) ?_
          refine lv_dup hx hb dX1_insert_148 rfl ?_
          refine xg_X1_37 C hP dX1_insert_149 ?_
          refine lv_iconst (v := (1 : Int32)) hx hb dX1_insert_152 (by decide) ?_
          refine lv_iadd hx hb dX1_insert_153 ?_
          refine lv_topi (fun x18 ex18 => ?_)
          replace hf := xsLt_use ex18 hf
          refine xp_X1_37 C hP hD hS dX1_insert_154 (fun H locs hP hD hS => ?_)
          have ho := Option.some.inj hf
          subst ho
          rw [hQq]
          exact xs_vret C hr hlk hP hD hS dX1_insert_157
        replace hf := xsBd_use hf
        obtain ⟨r8, hk80, hf⟩ := hf
        have L8 : ∀ (sg : Int32 × (Nat → Int64) × (Nat → Int64) × (Nat → Int64)) (rg : (Nat → Int64) × (Nat → Int64) × (Nat → Int64)), xsWh (fun s8 => fX1_insert_L61 o1 s8.1 s8.2.1 s8.2.2.1 s8.2.2.2) sg = some rg → (fX1_insert_J122 evSize a0 a1 a2 o1 rg.1 rg.2.1 rg.2.2 = some out → ∀ (H : Heap) (locs : List Loc) (ls : Array Slot), va_P (xsD X) vwCl (wK X kIsKept kIsStale hiLatest hiSize scBytes scTold scLength scFault scAt scNumber piSegmentsNow enKind enX enY enLower enFromX enFromY enToX enToY tiTouching tiLyingAlong tiMeetingPairs tiAlongPairs tiSize sg.2.1 sg.2.2.1 sg.2.2.2 evBundle evCrossingOf evEventOf evLeftEvent evRightEvent evSize evCrossings evSegmentsNow grDegree grEdges grFar grQueue grQueued huX huY huSize huBestX huBestY S Rw) H → va_D (xsF X) (wK X kIsKept kIsStale hiLatest hiSize scBytes scTold scLength scFault scAt scNumber piSegmentsNow enKind enX enY enLower enFromX enFromY enToX enToY tiTouching tiLyingAlong tiMeetingPairs tiAlongPairs tiSize sg.2.1 sg.2.2.1 sg.2.2.2 evBundle evCrossingOf evEventOf evLeftEvent evRightEvent evSize evCrossings evSegmentsNow grDegree grEdges grFar grQueue grQueued huX huY huSize huBestX huBestY S Rw) → va_S (xsF X) s.heap H locs → lv_has ls 10 [(0, .ref (xsA X 11)), (1, .long a0), (3, .long a1), (5, .long a2), (7, .int o1), (9, .int sg.1)] → W p l e { frames := 3, cells := 0, slots := 0, locals := 81 } s m ([.ref (xsA X 11), .long a0, .long a1, .long a2] : List Value).toArray below meth c H locs 0 0 (MQ below Qq ([.ref (xsA X 11), .long a0, .long a1, .long a2] : List Value).toArray s 0 0 (xsF X)) (F0 m 61 ls [])) := by
          refine xsWh_ind ?_
          intro sg r8 u8 hf ih8 hx8 hk8 H locs ls hP hD hS hl
          obtain ⟨y4, y5, y6, y7⟩ := sg
          replace hf : fX1_insert_L61 o1 y4 y5 y6 y7 = some u8 := hf
          replace hl : lv_has ls 10 [(0, .ref (xsA X 11)), (1, .long a0), (3, .long a1), (5, .long a2), (7, .int o1), (9, .int y4)] := hl
          replace hP : va_P (xsD X) vwCl (wK X kIsKept kIsStale hiLatest hiSize scBytes scTold scLength scFault scAt scNumber piSegmentsNow enKind enX enY enLower enFromX enFromY enToX enToY tiTouching tiLyingAlong tiMeetingPairs tiAlongPairs tiSize y5 y6 y7 evBundle evCrossingOf evEventOf evLeftEvent evRightEvent evSize evCrossings evSegmentsNow grDegree grEdges grFar grQueue grQueued huX huY huSize huBestX huBestY S Rw) H := hP
          replace hD : va_D (xsF X) (wK X kIsKept kIsStale hiLatest hiSize scBytes scTold scLength scFault scAt scNumber piSegmentsNow enKind enX enY enLower enFromX enFromY enToX enToY tiTouching tiLyingAlong tiMeetingPairs tiAlongPairs tiSize y5 y6 y7 evBundle evCrossingOf evEventOf evLeftEvent evRightEvent evSize evCrossings evSegmentsNow grDegree grEdges grFar grQueue grQueued huX huY huSize huBestX huBestY S Rw) := hD
          unfold fX1_insert_L61 at hf
          refine lv_iload hx hb dX1_insert_61 (lv_at hl 5 rfl) ?_
          refine lv_iload hx hb dX1_insert_63 (lv_at hl 4 rfl) ?_
          refine lv_icmp_le (tgt := 122) hx hb dX1_insert_65 (by decide) (fun c29 => ?_) (fun c29 => ?_)
          · replace hf := xsBr_t c29 hf
            have ez := hx8 _ (Option.some.inj hf).symm
            subst ez
            exact K8 y5 y6 y7 hk8 H locs ls hP hD hS (lv_sub hl [0, 1, 2, 3, 4] rfl)
          · replace hf := xsBr_f c29 hf
            refine lv_aload_n hx hb dX1_insert_68 rfl (lv_at hl 0 rfl) ?_
            refine xg_X1_9 C hP dX1_insert_69 ?_
            refine lv_iload hx hb dX1_insert_72 (lv_at hl 5 rfl) ?_
            refine lv_aload_n hx hb dX1_insert_74 rfl (lv_at hl 0 rfl) ?_
            refine xg_X1_9 C hP dX1_insert_75 ?_
            refine lv_iload hx hb dX1_insert_78 (lv_at hl 5 rfl) ?_
            refine lv_iconst (v := (1 : Int32)) hx hb dX1_insert_80 (by decide) ?_
            refine lv_isub hx hb dX1_insert_81 ?_
            replace hf := xsCk_use hf
            obtain ⟨h19, hf⟩ := hf
            refine xl_evX C hP h19 dX1_insert_82 ?_
            replace hf := xsCk_use hf
            obtain ⟨h20, hf⟩ := hf
            refine xs_evX C hP hD hS h20 dX1_insert_83 (fun f21 ef21 H locs hP hD hS => ?_)
            replace hf := xsLt_use ef21 hf
            refine lv_aload_n hx hb dX1_insert_84 rfl (lv_at hl 0 rfl) ?_
            refine xg_X1_15 C hP dX1_insert_85 ?_
            refine lv_iload hx hb dX1_insert_88 (lv_at hl 5 rfl) ?_
            refine lv_aload_n hx hb dX1_insert_90 rfl (lv_at hl 0 rfl) ?_
            refine xg_X1_15 C hP dX1_insert_91 ?_
            refine lv_iload hx hb dX1_insert_94 (lv_at hl 5 rfl) ?_
            refine lv_iconst (v := (1 : Int32)) hx hb dX1_insert_96 (by decide) ?_
            refine lv_isub hx hb dX1_insert_97 ?_
            replace hf := xsCk_use hf
            obtain ⟨h22, hf⟩ := hf
            refine xl_evY C hP h22 dX1_insert_98 ?_
            replace hf := xsCk_use hf
            obtain ⟨h23, hf⟩ := hf
            refine xs_evY C hP hD hS h23 dX1_insert_99 (fun f24 ef24 H locs hP hD hS => ?_)
            replace hf := xsLt_use ef24 hf
            refine lv_aload_n hx hb dX1_insert_100 rfl (lv_at hl 0 rfl) ?_
            refine xg_X1_18 C hP dX1_insert_101 ?_
            refine lv_iload hx hb dX1_insert_104 (lv_at hl 5 rfl) ?_
            refine lv_aload_n hx hb dX1_insert_106 rfl (lv_at hl 0 rfl) ?_
            refine xg_X1_18 C hP dX1_insert_107 ?_
            refine lv_iload hx hb dX1_insert_110 (lv_at hl 5 rfl) ?_
            refine lv_iconst (v := (1 : Int32)) hx hb dX1_insert_112 (by decide) ?_
            refine lv_isub hx hb dX1_insert_113 ?_
            replace hf := xsCk_use hf
            obtain ⟨h25, hf⟩ := hf
            refine xl_evLower C hP h25 dX1_insert_114 ?_
            replace hf := xsCk_use hf
            obtain ⟨h26, hf⟩ := hf
            refine xs_evLower C hP hD hS h26 dX1_insert_115 (fun f27 ef27 H locs hP hD hS => ?_)
            replace hf := xsLt_use ef27 hf
            obtain ⟨x28, ex28⟩ : ∃ y : Int32, y = y4 + (-1 : Int32) := ⟨_, rfl⟩
            replace hf := xsLt_use ex28 hf
            refine lv_iinc (v := x28) (lv' := [(9, .int x28), (0, .ref (xsA X 11)), (1, .long a0), (3, .long a1), (5, .long a2), (7, .int o1)]) hx hb dX1_insert_116 hl (k := 5) rfl (by rw [ex28]; rfl) (by decide) rfl (fun ls hl => ?_)
            refine lv_goto (tgt := 61) hx hb dX1_insert_119 (by decide) ?_
            exact ih8 _ (Option.some.inj hf).symm hk8 H locs ls hP hD hS (lv_sub hl [1, 2, 3, 4, 5, 0] rfl)
        exact L8 (evSize, evX, evY, evLower) r8 hk80 hf H locs ls hP hD hS (lv_sub hl [2, 3, 4, 5, 6, 0] rfl)
      · replace hf := xsBr_f c30 hf
        have ho := Option.some.inj hf
        subst ho
        rw [hQq]
        exact xs_vret C hr hlk hP hD hS dX1_insert_54
  replace hf := xsBd_use hf
  obtain ⟨v32, hf, hk33⟩ := hf
  refine lv_icmp_ge (tgt := 36) hx hb dX1_insert_16 (by decide) (fun c38 => ?_) (fun c38 => ?_)
  · replace hf := xsBr_t c38 hf
    refine lv_iconst (v := (0 : Int32)) hx hb dX1_insert_36 (by decide) ?_
    have ev := Option.some.inj hf
    subst ev
    exact K34 (0 : Int32) hk33 H locs ls hP hD hS (lv_sub hl [1, 2, 3, 4, 0] rfl)
  · replace hf := xsBr_f c38 hf
    refine lv_aload_n hx hb dX1_insert_19 rfl (lv_at hl 1 rfl) ?_
    refine lv_iload hx hb dX1_insert_20 (lv_at hl 0 rfl) ?_
    refine lv_lload_n hx hb dX1_insert_22 rfl (lv_at hl 2 rfl) ?_
    refine lv_lload_n hx hb dX1_insert_23 rfl (lv_at hl 3 rfl) ?_
    refine lv_lload hx hb dX1_insert_24 (lv_at hl 4 rfl) ?_
    replace hf := xsBd_use hf
    obtain ⟨o35, h36, hf⟩ := hf
    refine xs_calli hS (xs_runV (As := [.int o1, .long a0, .long a1, .long a2]) C (mX1_compare l  h36) w_559 w_561 w_4 w_112 w_562 hd_X1_compare ⟨rfl, rfl, Nat.le_of_ble_eq_true rfl, Nat.le_of_ble_eq_true rfl, Nat.zero_le _, Nat.zero_le _⟩ hP hD hS lk_X1 rfl hl.1 rfl (Nat.le_of_ble_eq_true rfl) dX1_insert_26) (fun H locs hP hD hS => ?_)
    refine lv_if_ne (tgt := 36) hx hb dX1_insert_29 (by decide) (fun c37 => ?_) (fun c37 => ?_)
    · replace hf := xsBr_f c37 hf
      refine lv_iconst (v := (0 : Int32)) hx hb dX1_insert_36 (by decide) ?_
      have ev := Option.some.inj hf
      subst ev
      exact K34 (0 : Int32) hk33 H locs ls hP hD hS (lv_sub hl [1, 2, 3, 4, 0] rfl)
    · replace hf := xsBr_t c37 hf
      refine lv_iconst (v := (1 : Int32)) hx hb dX1_insert_32 (by decide) ?_
      refine lv_goto (tgt := 37) hx hb dX1_insert_33 (by decide) ?_
      have ev := Option.some.inj hf
      subst ev
      exact K34 (1 : Int32) hk33 H locs ls hP hD hS (lv_sub hl [1, 2, 3, 4, 0] rfl)
set_option maxRecDepth 100000 in
set_option maxHeartbeats 8000000 in
theorem mX1_heightOf (l : Launch) {X : xsX} {kIsKept kIsStale hiLatest hiSize scLength scFault scAt scNumber piSegmentsNow enKind enFromX enFromY enToX enToY tiMeetingPairs tiAlongPairs tiSize evSize evCrossings evSegmentsNow grEdges grQueued huSize huBestX huBestY : Int32} {scBytes scTold tiTouching tiLyingAlong evBundle evCrossingOf evEventOf evLeftEvent evRightEvent grDegree grFar grQueue huX huY : Nat → Int32} {enX enY enLower : Int64} {evX evY evLower : Nat → Int64} {S : Nat → xsV} {Rw : va_W} {js : Nat} (hjs : js < 12) {sLx sLy sRx sRy sTi : Nat → Int32} {sSz : Int32} (hs_s : S js = (sLx, sLy, sRx, sRy, sTi, sSz)) {a1 : Int32} {a2 : Int32} {out : Int64} (hf : fX1_heightOf evX evY evLower sLx sLy sRx sRy a1 a2 = some out) : Met l yX1_heightOf (xsWs yX1_heightOf cX1_heightOf 4 (some .long)) { frames := 1, cells := 0, slots := 0, locals := 21 } (xsP X (wK X kIsKept kIsStale hiLatest hiSize scBytes scTold scLength scFault scAt scNumber piSegmentsNow enKind enX enY enLower enFromX enFromY enToX enToY tiTouching tiLyingAlong tiMeetingPairs tiAlongPairs tiSize evX evY evLower evBundle evCrossingOf evEventOf evLeftEvent evRightEvent evSize evCrossings evSegmentsNow grDegree grEdges grFar grQueue grQueued huX huY huSize huBestX huBestY S Rw) [.ref (xsA X 11), .ref (xsA X (27 + 6 * js)), .int a1, .int a2]) (xsQl X out (wK X kIsKept kIsStale hiLatest hiSize scBytes scTold scLength scFault scAt scNumber piSegmentsNow enKind enX enY enLower enFromX enFromY enToX enToY tiTouching tiLyingAlong tiMeetingPairs tiAlongPairs tiSize evX evY evLower evBundle evCrossingOf evEventOf evLeftEvent evRightEvent evSize evCrossings evSegmentsNow grDegree grEdges grFar grQueue grQueued huX huY huSize huBestX huBestY S Rw)) 0 0 (xsF X) := by
  refine xs_meth RX1 (by decide) rfl (Nat.le_of_ble_eq_true rfl) ?_
  intro p e s m below meth c ls H locs C hP hD hS hr hlk hl
  have hx := C.1
  have hb := C.2.1
  have hl : lv_has ls 4 [(0, .ref (xsA X 11)), (1, .ref (xsA X (27 + 6 * js))), (2, .int a1), (3, .int a2)] := hl
  obtain ⟨Qq, hQq⟩ : ∃ Qq, Qq = xsQl X out (wK X kIsKept kIsStale hiLatest hiSize scBytes scTold scLength scFault scAt scNumber piSegmentsNow enKind enX enY enLower enFromX enFromY enToX enToY tiTouching tiLyingAlong tiMeetingPairs tiAlongPairs tiSize evX evY evLower evBundle evCrossingOf evEventOf evLeftEvent evRightEvent evSize evCrossings evSegmentsNow grDegree grEdges grFar grQueue grQueued huX huY huSize huBestX huBestY S Rw) := ⟨_, rfl⟩
  rw [← hQq]
  unfold fX1_heightOf at hf
  refine lv_aload_n hx hb dX1_heightOf_0 rfl (lv_at hl 1 rfl) ?_
  refine lv_iload_n hx hb dX1_heightOf_1 rfl (lv_at hl 2 rfl) ?_
  replace hf := xsBd_use hf
  obtain ⟨o1, h2, hf⟩ := hf
  refine xs_calll hS (xs_runV (As := [.int a1]) C (mX7_rise l (js := js) hjs hs_s h2) w_598 w_575 w_576 w_106 w_577 hd_X7_rise ⟨rfl, rfl, Nat.le_of_ble_eq_true rfl, Nat.le_of_ble_eq_true rfl, Nat.zero_le _, Nat.zero_le _⟩ hP hD hS (xs_lkS hjs) rfl hl.1 rfl (Nat.le_of_ble_eq_true rfl) dX1_heightOf_2) (fun H locs hP hD hS => ?_)
  refine lv_aload_n hx hb dX1_heightOf_5 rfl (lv_at hl 0 rfl) ?_
  refine xg_X1_9 C hP dX1_heightOf_6 ?_
  refine lv_iload_n hx hb dX1_heightOf_9 rfl (lv_at hl 3 rfl) ?_
  replace hf := xsCk_use hf
  obtain ⟨h3, hf⟩ := hf
  refine xl_evX C hP h3 dX1_heightOf_10 ?_
  refine lv_aload_n hx hb dX1_heightOf_11 rfl (lv_at hl 1 rfl) ?_
  refine xg_X1_63 (j := js) hjs C hP dX1_heightOf_12 ?_
  refine lv_iload_n hx hb dX1_heightOf_15 rfl (lv_at hl 2 rfl) ?_
  replace hf := xsCk_use hf
  obtain ⟨h4, hf⟩ := hf
  refine xl_s0 (j := js) hjs hs_s C hP h4 dX1_heightOf_16 ?_
  refine lv_i2l hx hb dX1_heightOf_17 rfl ?_
  refine lv_aload_n hx hb dX1_heightOf_18 rfl (lv_at hl 0 rfl) ?_
  refine xg_X1_18 C hP dX1_heightOf_19 ?_
  refine lv_iload_n hx hb dX1_heightOf_22 rfl (lv_at hl 3 rfl) ?_
  replace hf := xsCk_use hf
  obtain ⟨h5, hf⟩ := hf
  refine xl_evLower C hP h5 dX1_heightOf_23 ?_
  refine lv_lmul hx hb dX1_heightOf_24 ?_
  refine lv_lsub hx hb dX1_heightOf_25 ?_
  refine lv_lmul hx hb dX1_heightOf_26 ?_
  refine lv_aload_n hx hb dX1_heightOf_27 rfl (lv_at hl 1 rfl) ?_
  refine lv_iload_n hx hb dX1_heightOf_28 rfl (lv_at hl 2 rfl) ?_
  replace hf := xsBd_use hf
  obtain ⟨o6, h7, hf⟩ := hf
  refine xs_calll hS (xs_runV (As := [.int a1]) C (mX7_width l (js := js) hjs hs_s h7) w_599 w_571 w_572 w_106 w_573 hd_X7_width ⟨rfl, rfl, Nat.le_of_ble_eq_true rfl, Nat.le_of_ble_eq_true rfl, Nat.zero_le _, Nat.zero_le _⟩ hP hD hS (xs_lkS hjs) rfl hl.1 rfl (Nat.le_of_ble_eq_true rfl) dX1_heightOf_29) (fun H locs hP hD hS => ?_)
  refine lv_aload_n hx hb dX1_heightOf_32 rfl (lv_at hl 0 rfl) ?_
  refine xg_X1_15 C hP dX1_heightOf_33 ?_
  refine lv_iload_n hx hb dX1_heightOf_36 rfl (lv_at hl 3 rfl) ?_
  replace hf := xsCk_use hf
  obtain ⟨h8, hf⟩ := hf
  refine xl_evY C hP h8 dX1_heightOf_37 ?_
  refine lv_aload_n hx hb dX1_heightOf_38 rfl (lv_at hl 1 rfl) ?_
  refine xg_X1_66 (j := js) hjs C hP dX1_heightOf_39 ?_
  refine lv_iload_n hx hb dX1_heightOf_42 rfl (lv_at hl 2 rfl) ?_
  replace hf := xsCk_use hf
  obtain ⟨h9, hf⟩ := hf
  refine xl_s1 (j := js) hjs hs_s C hP h9 dX1_heightOf_43 ?_
  refine lv_i2l hx hb dX1_heightOf_44 rfl ?_
  refine lv_aload_n hx hb dX1_heightOf_45 rfl (lv_at hl 0 rfl) ?_
  refine xg_X1_18 C hP dX1_heightOf_46 ?_
  refine lv_iload_n hx hb dX1_heightOf_49 rfl (lv_at hl 3 rfl) ?_
  replace hf := xsCk_use hf
  obtain ⟨h10, hf⟩ := hf
  refine xl_evLower C hP h10 dX1_heightOf_50 ?_
  refine lv_lmul hx hb dX1_heightOf_51 ?_
  refine lv_lsub hx hb dX1_heightOf_52 ?_
  refine lv_lmul hx hb dX1_heightOf_53 ?_
  refine lv_lsub hx hb dX1_heightOf_54 ?_
  have ho := Option.some.inj hf
  subst ho
  rw [hQq]
  exact xs_lret C hr hlk hP hD hS dX1_heightOf_55
set_option maxRecDepth 100000 in
set_option maxHeartbeats 8000000 in
theorem mX1_bundleOf (l : Launch) {X : xsX} {kIsKept kIsStale hiLatest hiSize scLength scFault scAt scNumber piSegmentsNow enKind enFromX enFromY enToX enToY tiMeetingPairs tiAlongPairs tiSize evSize evCrossings evSegmentsNow grEdges grQueued huSize huBestX huBestY : Int32} {scBytes scTold tiTouching tiLyingAlong evBundle evCrossingOf evEventOf evLeftEvent evRightEvent grDegree grFar grQueue huX huY : Nat → Int32} {enX enY enLower : Int64} {evX evY evLower : Nat → Int64} {S : Nat → xsV} {Rw : va_W} {js : Nat} (hjs : js < 12) {sLx sLy sRx sRy sTi : Nat → Int32} {sSz : Int32} (hs_s : S js = (sLx, sLy, sRx, sRy, sTi, sSz)) {a1 : Int32} {out : Int32} (hf : fX1_bundleOf evX evY evLower evLeftEvent evRightEvent evSegmentsNow sLx sLy sRx sRy a1 = some out) : Met l yX1_bundleOf (xsWs yX1_bundleOf cX1_bundleOf 5 (some .int)) { frames := 2, cells := 0, slots := 0, locals := 44 } (xsP X (wK X kIsKept kIsStale hiLatest hiSize scBytes scTold scLength scFault scAt scNumber piSegmentsNow enKind enX enY enLower enFromX enFromY enToX enToY tiTouching tiLyingAlong tiMeetingPairs tiAlongPairs tiSize evX evY evLower evBundle evCrossingOf evEventOf evLeftEvent evRightEvent evSize evCrossings evSegmentsNow grDegree grEdges grFar grQueue grQueued huX huY huSize huBestX huBestY S Rw) [.ref (xsA X 11), .ref (xsA X (27 + 6 * js)), .int a1]) (xsQi X out (wK X kIsKept kIsStale hiLatest hiSize scBytes scTold scLength scFault scAt scNumber piSegmentsNow enKind enX enY enLower enFromX enFromY enToX enToY tiTouching tiLyingAlong tiMeetingPairs tiAlongPairs tiSize evX evY evLower evBundle evCrossingOf evEventOf evLeftEvent evRightEvent evSize evCrossings evSegmentsNow grDegree grEdges grFar grQueue grQueued huX huY huSize huBestX huBestY S Rw)) 0 0 (xsF X) := by
  refine xs_meth RX1 (by decide) rfl (Nat.le_of_ble_eq_true rfl) ?_
  intro p e s m below meth c ls H locs C hP hD hS hr hlk hl
  have hx := C.1
  have hb := C.2.1
  have hl : lv_has ls 5 [(0, .ref (xsA X 11)), (1, .ref (xsA X (27 + 6 * js))), (2, .int a1)] := hl
  obtain ⟨Qq, hQq⟩ : ∃ Qq, Qq = xsQi X out (wK X kIsKept kIsStale hiLatest hiSize scBytes scTold scLength scFault scAt scNumber piSegmentsNow enKind enX enY enLower enFromX enFromY enToX enToY tiTouching tiLyingAlong tiMeetingPairs tiAlongPairs tiSize evX evY evLower evBundle evCrossingOf evEventOf evLeftEvent evRightEvent evSize evCrossings evSegmentsNow grDegree grEdges grFar grQueue grQueued huX huY huSize huBestX huBestY S Rw) := ⟨_, rfl⟩
  rw [← hQq]
  unfold fX1_bundleOf at hf
  refine lv_iconst (v := (0 : Int32)) hx hb dX1_bundleOf_0 (by decide) ?_
  refine lv_istore_n (lv' := [(3, .int (0 : Int32)), (0, .ref (xsA X 11)), (1, .ref (xsA X (27 + 6 * js))), (2, .int a1)]) hx hb dX1_bundleOf_1 rfl hl (by decide) rfl (fun ls hl => ?_)
  refine lv_iconst (v := (0 : Int32)) hx hb dX1_bundleOf_2 (by decide) ?_
  refine lv_istore (lv' := [(4, .int (0 : Int32)), (3, .int (0 : Int32)), (0, .ref (xsA X 11)), (1, .ref (xsA X (27 + 6 * js))), (2, .int a1)]) hx hb dX1_bundleOf_3 hl (by decide) rfl (fun ls hl => ?_)
  have K3 : ∀ (y4 : Int32) (hf : fX1_bundleOf_J62 y4 = some out) (H : Heap) (locs : List Loc) (ls : Array Slot), va_P (xsD X) vwCl (wK X kIsKept kIsStale hiLatest hiSize scBytes scTold scLength scFault scAt scNumber piSegmentsNow enKind enX enY enLower enFromX enFromY enToX enToY tiTouching tiLyingAlong tiMeetingPairs tiAlongPairs tiSize evX evY evLower evBundle evCrossingOf evEventOf evLeftEvent evRightEvent evSize evCrossings evSegmentsNow grDegree grEdges grFar grQueue grQueued huX huY huSize huBestX huBestY S Rw) H → va_D (xsF X) (wK X kIsKept kIsStale hiLatest hiSize scBytes scTold scLength scFault scAt scNumber piSegmentsNow enKind enX enY enLower enFromX enFromY enToX enToY tiTouching tiLyingAlong tiMeetingPairs tiAlongPairs tiSize evX evY evLower evBundle evCrossingOf evEventOf evLeftEvent evRightEvent evSize evCrossings evSegmentsNow grDegree grEdges grFar grQueue grQueued huX huY huSize huBestX huBestY S Rw) → va_S (xsF X) s.heap H locs → lv_has ls 5 [(3, .int y4)] → W p l e { frames := 2, cells := 0, slots := 0, locals := 44 } s m ([.ref (xsA X 11), .ref (xsA X (27 + 6 * js)), .int a1] : List Value).toArray below meth c H locs 0 0 (MQ below Qq ([.ref (xsA X 11), .ref (xsA X (27 + 6 * js)), .int a1] : List Value).toArray s 0 0 (xsF X)) (F0 m 62 ls []) := by
    intro y4 hf H locs ls hP hD hS hl
    unfold fX1_bundleOf_J62 at hf
    refine lv_iload_n hx hb dX1_bundleOf_62 rfl (lv_at hl 0 rfl) ?_
    have ho := Option.some.inj hf
    subst ho
    rw [hQq]
    exact xs_iret C hr hlk hP hD hS dX1_bundleOf_63
  replace hf := xsBd_use hf
  obtain ⟨r3, hk30, hf⟩ := hf
  have L3 : ∀ (sg : Int32 × Int32) (rg : Int32), xsWh (fun s3 => fX1_bundleOf_L5 evX evY evLower evLeftEvent evRightEvent evSegmentsNow sLx sLy sRx sRy a1 s3.1 s3.2) sg = some rg → (fX1_bundleOf_J62 rg = some out → ∀ (H : Heap) (locs : List Loc) (ls : Array Slot), va_P (xsD X) vwCl (wK X kIsKept kIsStale hiLatest hiSize scBytes scTold scLength scFault scAt scNumber piSegmentsNow enKind enX enY enLower enFromX enFromY enToX enToY tiTouching tiLyingAlong tiMeetingPairs tiAlongPairs tiSize evX evY evLower evBundle evCrossingOf evEventOf evLeftEvent evRightEvent evSize evCrossings evSegmentsNow grDegree grEdges grFar grQueue grQueued huX huY huSize huBestX huBestY S Rw) H → va_D (xsF X) (wK X kIsKept kIsStale hiLatest hiSize scBytes scTold scLength scFault scAt scNumber piSegmentsNow enKind enX enY enLower enFromX enFromY enToX enToY tiTouching tiLyingAlong tiMeetingPairs tiAlongPairs tiSize evX evY evLower evBundle evCrossingOf evEventOf evLeftEvent evRightEvent evSize evCrossings evSegmentsNow grDegree grEdges grFar grQueue grQueued huX huY huSize huBestX huBestY S Rw) → va_S (xsF X) s.heap H locs → lv_has ls 5 [(0, .ref (xsA X 11)), (1, .ref (xsA X (27 + 6 * js))), (2, .int a1), (3, .int sg.1), (4, .int sg.2)] → W p l e { frames := 2, cells := 0, slots := 0, locals := 44 } s m ([.ref (xsA X 11), .ref (xsA X (27 + 6 * js)), .int a1] : List Value).toArray below meth c H locs 0 0 (MQ below Qq ([.ref (xsA X 11), .ref (xsA X (27 + 6 * js)), .int a1] : List Value).toArray s 0 0 (xsF X)) (F0 m 5 ls [])) := by
    refine xsWh_ind ?_
    intro sg r3 u3 hf ih3 hx3 hk3 H locs ls hP hD hS hl
    obtain ⟨y1, y2⟩ := sg
    replace hf : fX1_bundleOf_L5 evX evY evLower evLeftEvent evRightEvent evSegmentsNow sLx sLy sRx sRy a1 y1 y2 = some u3 := hf
    replace hl : lv_has ls 5 [(0, .ref (xsA X 11)), (1, .ref (xsA X (27 + 6 * js))), (2, .int a1), (3, .int y1), (4, .int y2)] := hl
    replace hP : va_P (xsD X) vwCl (wK X kIsKept kIsStale hiLatest hiSize scBytes scTold scLength scFault scAt scNumber piSegmentsNow enKind enX enY enLower enFromX enFromY enToX enToY tiTouching tiLyingAlong tiMeetingPairs tiAlongPairs tiSize evX evY evLower evBundle evCrossingOf evEventOf evLeftEvent evRightEvent evSize evCrossings evSegmentsNow grDegree grEdges grFar grQueue grQueued huX huY huSize huBestX huBestY S Rw) H := hP
    replace hD : va_D (xsF X) (wK X kIsKept kIsStale hiLatest hiSize scBytes scTold scLength scFault scAt scNumber piSegmentsNow enKind enX enY enLower enFromX enFromY enToX enToY tiTouching tiLyingAlong tiMeetingPairs tiAlongPairs tiSize evX evY evLower evBundle evCrossingOf evEventOf evLeftEvent evRightEvent evSize evCrossings evSegmentsNow grDegree grEdges grFar grQueue grQueued huX huY huSize huBestX huBestY S Rw) := hD
    unfold fX1_bundleOf_L5 at hf
    refine lv_iload hx hb dX1_bundleOf_5 (lv_at hl 4 rfl) ?_
    refine lv_aload_n hx hb dX1_bundleOf_7 rfl (lv_at hl 0 rfl) ?_
    refine xg_X1_44 C hP dX1_bundleOf_8 ?_
    refine lv_icmp_ge (tgt := 62) hx hb dX1_bundleOf_11 (by decide) (fun c18 => ?_) (fun c18 => ?_)
    · replace hf := xsBr_t c18 hf
      have ez := hx3 _ (Option.some.inj hf).symm
      subst ez
      exact K3 y1 hk3 H locs ls hP hD hS (lv_sub hl [3] rfl)
    · replace hf := xsBr_f c18 hf
      refine lv_aload_n hx hb dX1_bundleOf_14 rfl (lv_at hl 0 rfl) ?_
      refine xg_X1_31 C hP dX1_bundleOf_15 ?_
      refine lv_iload hx hb dX1_bundleOf_18 (lv_at hl 4 rfl) ?_
      replace hf := xsCk_use hf
      obtain ⟨h5, hf⟩ := hf
      refine xl_evLeftEvent C hP h5 dX1_bundleOf_20 ?_
      refine lv_iload_n hx hb dX1_bundleOf_21 rfl (lv_at hl 2 rfl) ?_
      have K10 : ∀ (y6 : Int32) (hf : fX1_bundleOf_J56 y2 y6 = some u3) (H : Heap) (locs : List Loc) (ls : Array Slot), va_P (xsD X) vwCl (wK X kIsKept kIsStale hiLatest hiSize scBytes scTold scLength scFault scAt scNumber piSegmentsNow enKind enX enY enLower enFromX enFromY enToX enToY tiTouching tiLyingAlong tiMeetingPairs tiAlongPairs tiSize evX evY evLower evBundle evCrossingOf evEventOf evLeftEvent evRightEvent evSize evCrossings evSegmentsNow grDegree grEdges grFar grQueue grQueued huX huY huSize huBestX huBestY S Rw) H → va_D (xsF X) (wK X kIsKept kIsStale hiLatest hiSize scBytes scTold scLength scFault scAt scNumber piSegmentsNow enKind enX enY enLower enFromX enFromY enToX enToY tiTouching tiLyingAlong tiMeetingPairs tiAlongPairs tiSize evX evY evLower evBundle evCrossingOf evEventOf evLeftEvent evRightEvent evSize evCrossings evSegmentsNow grDegree grEdges grFar grQueue grQueued huX huY huSize huBestX huBestY S Rw) → va_S (xsF X) s.heap H locs → lv_has ls 5 [(0, .ref (xsA X 11)), (1, .ref (xsA X (27 + 6 * js))), (2, .int a1), (3, .int y6), (4, .int y2)] → W p l e { frames := 2, cells := 0, slots := 0, locals := 44 } s m ([.ref (xsA X 11), .ref (xsA X (27 + 6 * js)), .int a1] : List Value).toArray below meth c H locs 0 0 (MQ below Qq ([.ref (xsA X 11), .ref (xsA X (27 + 6 * js)), .int a1] : List Value).toArray s 0 0 (xsF X)) (F0 m 56 ls []) := by
        intro y6 hf H locs ls hP hD hS hl
        unfold fX1_bundleOf_J56 at hf
        obtain ⟨x7, ex7⟩ : ∃ y : Int32, y = y2 + (1 : Int32) := ⟨_, rfl⟩
        replace hf := xsLt_use ex7 hf
        refine lv_iinc (v := x7) (lv' := [(4, .int x7), (0, .ref (xsA X 11)), (1, .ref (xsA X (27 + 6 * js))), (2, .int a1), (3, .int y6)]) hx hb dX1_bundleOf_56 hl (k := 4) rfl (by rw [ex7]; rfl) (by decide) rfl (fun ls hl => ?_)
        refine lv_goto (tgt := 5) hx hb dX1_bundleOf_59 (by decide) ?_
        exact ih3 _ (Option.some.inj hf).symm hk3 H locs ls hP hD hS (lv_sub hl [1, 2, 3, 4, 0] rfl)
      replace hf := xsBd_use hf
      obtain ⟨v8, hf, hk9⟩ := hf
      refine lv_icmp_gt (tgt := 56) hx hb dX1_bundleOf_22 (by decide) (fun c17 => ?_) (fun c17 => ?_)
      · replace hf := xsBr_t c17 hf
        have ev := Option.some.inj hf
        subst ev
        exact K10 y1 hk9 H locs ls hP hD hS (lv_sub hl [0, 1, 2, 3, 4] rfl)
      · replace hf := xsBr_f c17 hf
        refine lv_iload_n hx hb dX1_bundleOf_25 rfl (lv_at hl 2 rfl) ?_
        refine lv_aload_n hx hb dX1_bundleOf_26 rfl (lv_at hl 0 rfl) ?_
        refine xg_X1_34 C hP dX1_bundleOf_27 ?_
        refine lv_iload hx hb dX1_bundleOf_30 (lv_at hl 4 rfl) ?_
        replace hf := xsCk_use hf
        obtain ⟨h11, hf⟩ := hf
        refine xl_evRightEvent C hP h11 dX1_bundleOf_32 ?_
        refine lv_icmp_gt (tgt := 56) hx hb dX1_bundleOf_33 (by decide) (fun c16 => ?_) (fun c16 => ?_)
        · replace hf := xsBr_t c16 hf
          have ev := Option.some.inj hf
          subst ev
          exact K10 y1 hk9 H locs ls hP hD hS (lv_sub hl [0, 1, 2, 3, 4] rfl)
        · replace hf := xsBr_f c16 hf
          refine lv_aload_n hx hb dX1_bundleOf_36 rfl (lv_at hl 0 rfl) ?_
          refine lv_aload_n hx hb dX1_bundleOf_37 rfl (lv_at hl 1 rfl) ?_
          refine lv_iload hx hb dX1_bundleOf_38 (lv_at hl 4 rfl) ?_
          refine lv_iload_n hx hb dX1_bundleOf_40 rfl (lv_at hl 2 rfl) ?_
          replace hf := xsBd_use hf
          obtain ⟨o12, h13, hf⟩ := hf
          refine xs_calll hS (xs_runV (As := [.ref (xsA X (27 + 6 * js)), .int y2, .int a1]) C (mX1_heightOf l (js := js) hjs hs_s h13) w_594 w_595 w_596 w_112 w_597 hd_X1_heightOf ⟨rfl, rfl, Nat.le_of_ble_eq_true rfl, Nat.le_of_ble_eq_true rfl, Nat.zero_le _, Nat.zero_le _⟩ hP hD hS lk_X1 rfl hl.1 rfl (Nat.le_of_ble_eq_true rfl) dX1_bundleOf_41) (fun H locs hP hD hS => ?_)
          refine lv_lconst (v := (0 : Int64)) hx hb dX1_bundleOf_44 (by decide) ?_
          refine xs_lcmp_ne (tgt := 56) C dX1_bundleOf_45 dX1_bundleOf_46 (by decide) (fun c15 => ?_) (fun c15 => ?_)
          · replace hf := xsBr_f c15 hf
            have ev := Option.some.inj hf
            subst ev
            exact K10 y1 hk9 H locs ls hP hD hS (lv_sub hl [0, 1, 2, 3, 4] rfl)
          · replace hf := xsBr_t c15 hf
            refine lv_iload_n hx hb dX1_bundleOf_49 rfl (lv_at hl 3 rfl) ?_
            refine lv_iconst (v := (1 : Int32)) hx hb dX1_bundleOf_50 (by decide) ?_
            refine lv_iload hx hb dX1_bundleOf_51 (lv_at hl 4 rfl) ?_
            refine lv_ishl hx hb dX1_bundleOf_53 ?_
            refine lv_ior hx hb dX1_bundleOf_54 ?_
            refine lv_topi (fun x14 ex14 => ?_)
            replace hf := xsLt_use ex14 hf
            refine lv_istore_n (lv' := [(3, .int x14), (0, .ref (xsA X 11)), (1, .ref (xsA X (27 + 6 * js))), (2, .int a1), (4, .int y2)]) hx hb dX1_bundleOf_55 rfl hl (by decide) rfl (fun ls hl => ?_)
            have ev := Option.some.inj hf
            subst ev
            exact K10 x14 hk9 H locs ls hP hD hS (lv_sub hl [1, 2, 3, 0, 4] rfl)
  exact L3 ((0 : Int32), (0 : Int32)) r3 hk30 hf H locs ls hP hD hS (lv_sub hl [2, 3, 4, 1, 0] rfl)
set_option maxRecDepth 100000 in
set_option maxHeartbeats 8000000 in
theorem mJ6_bitCount_0f7a4 (l : Launch) {X : xsX} {w : va_W} {a0 : Int32} {out : Int32} (hf : fJ6_bitCount_0f7a4 a0 = some out) : Met l yJ6_bitCount_0f7a4 (xsWs yJ6_bitCount_0f7a4 cJ6_bitCount_0f7a4 1 (some .int)) { frames := 0, cells := 0, slots := 0, locals := 0 } (xsP X (w) [.int a0]) (xsQi X out (w)) 0 0 (xsF X) := by
  refine xs_meth RJ6 (by decide) rfl (Nat.le_of_ble_eq_true rfl) ?_
  intro p e s m below meth c ls H locs C hP hD hS hr hlk hl
  have hx := C.1
  have hb := C.2.1
  have hl : lv_has ls 1 [(0, .int a0)] := hl
  obtain ⟨Qq, hQq⟩ : ∃ Qq, Qq = xsQi X out (w) := ⟨_, rfl⟩
  rw [← hQq]
  unfold fJ6_bitCount_0f7a4 at hf
  refine lv_iload_n hx hb dJ6_bitCount_0f7a4_0 rfl (lv_at hl 0 rfl) ?_
  refine lv_iload_n hx hb dJ6_bitCount_0f7a4_1 rfl (lv_at hl 0 rfl) ?_
  refine lv_iconst (v := (1 : Int32)) hx hb dJ6_bitCount_0f7a4_2 (by decide) ?_
  refine lv_iushr hx hb dJ6_bitCount_0f7a4_3 rfl ?_
  refine lv_ldcw (v := (1431655765 : Int32)) hx hb C.2.2.2.1 (xs_kts C _ w_610) dJ6_bitCount_0f7a4_4 ?_
  refine lv_iand hx hb dJ6_bitCount_0f7a4_7 ?_
  refine lv_isub hx hb dJ6_bitCount_0f7a4_8 ?_
  refine lv_topi (fun x1 ex1 => ?_)
  replace hf := xsLt_use ex1 hf
  refine lv_istore_n (lv' := [(0, .int x1)]) hx hb dJ6_bitCount_0f7a4_9 rfl hl (by decide) rfl (fun ls hl => ?_)
  refine lv_iload_n hx hb dJ6_bitCount_0f7a4_10 rfl (lv_at hl 0 rfl) ?_
  refine lv_ldcw (v := (858993459 : Int32)) hx hb C.2.2.2.1 (xs_kts C _ w_611) dJ6_bitCount_0f7a4_11 ?_
  refine lv_iand hx hb dJ6_bitCount_0f7a4_14 ?_
  refine lv_iload_n hx hb dJ6_bitCount_0f7a4_15 rfl (lv_at hl 0 rfl) ?_
  refine lv_iconst (v := (2 : Int32)) hx hb dJ6_bitCount_0f7a4_16 (by decide) ?_
  refine lv_iushr hx hb dJ6_bitCount_0f7a4_17 rfl ?_
  refine lv_ldcw (v := (858993459 : Int32)) hx hb C.2.2.2.1 (xs_kts C _ w_611) dJ6_bitCount_0f7a4_18 ?_
  refine lv_iand hx hb dJ6_bitCount_0f7a4_21 ?_
  refine lv_iadd hx hb dJ6_bitCount_0f7a4_22 ?_
  refine lv_topi (fun x2 ex2 => ?_)
  replace hf := xsLt_use ex2 hf
  refine lv_istore_n (lv' := [(0, .int x2)]) hx hb dJ6_bitCount_0f7a4_23 rfl hl (by decide) rfl (fun ls hl => ?_)
  refine lv_iload_n hx hb dJ6_bitCount_0f7a4_24 rfl (lv_at hl 0 rfl) ?_
  refine lv_iload_n hx hb dJ6_bitCount_0f7a4_25 rfl (lv_at hl 0 rfl) ?_
  refine lv_iconst (v := (4 : Int32)) hx hb dJ6_bitCount_0f7a4_26 (by decide) ?_
  refine lv_iushr hx hb dJ6_bitCount_0f7a4_27 rfl ?_
  refine lv_iadd hx hb dJ6_bitCount_0f7a4_28 ?_
  refine lv_ldcw (v := (252645135 : Int32)) hx hb C.2.2.2.1 (xs_kts C _ w_612) dJ6_bitCount_0f7a4_29 ?_
  refine lv_iand hx hb dJ6_bitCount_0f7a4_32 ?_
  refine lv_topi (fun x3 ex3 => ?_)
  replace hf := xsLt_use ex3 hf
  refine lv_istore_n (lv' := [(0, .int x3)]) hx hb dJ6_bitCount_0f7a4_33 rfl hl (by decide) rfl (fun ls hl => ?_)
  refine lv_iload_n hx hb dJ6_bitCount_0f7a4_34 rfl (lv_at hl 0 rfl) ?_
  refine lv_iload_n hx hb dJ6_bitCount_0f7a4_35 rfl (lv_at hl 0 rfl) ?_
  refine lv_bipush (v := (8 : Int32)) hx hb dJ6_bitCount_0f7a4_36 (by decide) ?_
  refine lv_iushr hx hb dJ6_bitCount_0f7a4_38 rfl ?_
  refine lv_iadd hx hb dJ6_bitCount_0f7a4_39 ?_
  refine lv_topi (fun x4 ex4 => ?_)
  replace hf := xsLt_use ex4 hf
  refine lv_istore_n (lv' := [(0, .int x4)]) hx hb dJ6_bitCount_0f7a4_40 rfl hl (by decide) rfl (fun ls hl => ?_)
  refine lv_iload_n hx hb dJ6_bitCount_0f7a4_41 rfl (lv_at hl 0 rfl) ?_
  refine lv_iload_n hx hb dJ6_bitCount_0f7a4_42 rfl (lv_at hl 0 rfl) ?_
  refine lv_bipush (v := (16 : Int32)) hx hb dJ6_bitCount_0f7a4_43 (by decide) ?_
  refine lv_iushr hx hb dJ6_bitCount_0f7a4_45 rfl ?_
  refine lv_iadd hx hb dJ6_bitCount_0f7a4_46 ?_
  refine lv_topi (fun x5 ex5 => ?_)
  replace hf := xsLt_use ex5 hf
  refine lv_istore_n (lv' := [(0, .int x5)]) hx hb dJ6_bitCount_0f7a4_47 rfl hl (by decide) rfl (fun ls hl => ?_)
  refine lv_iload_n hx hb dJ6_bitCount_0f7a4_48 rfl (lv_at hl 0 rfl) ?_
  refine lv_bipush (v := (63 : Int32)) hx hb dJ6_bitCount_0f7a4_49 (by decide) ?_
  refine lv_iand hx hb dJ6_bitCount_0f7a4_51 ?_
  have ho := Option.some.inj hf
  subst ho
  rw [hQq]
  exact xs_iret C hr hlk hP hD hS dJ6_bitCount_0f7a4_52
set_option maxRecDepth 100000 in
set_option maxHeartbeats 8000000 in
theorem mX9_pairsMeetingIn (l : Launch) {X : xsX} {kIsKept kIsStale hiLatest hiSize scLength scFault scAt scNumber piSegmentsNow enKind enFromX enFromY enToX enToY tiMeetingPairs tiAlongPairs tiSize evSize evCrossings evSegmentsNow grEdges grQueued huSize huBestX huBestY : Int32} {scBytes scTold tiTouching tiLyingAlong evBundle evCrossingOf evEventOf evLeftEvent evRightEvent grDegree grFar grQueue huX huY : Nat → Int32} {enX enY enLower : Int64} {evX evY evLower : Nat → Int64} {S : Nat → xsV} {Rw : va_W} {a0 : Int32} {out : Int32} (hf : fX9_pairsMeetingIn tiLyingAlong tiSize a0 = some out) : Met l yX9_pairsMeetingIn (xsWs yX9_pairsMeetingIn cX9_pairsMeetingIn 4 (some .int)) { frames := 1, cells := 0, slots := 0, locals := 21 } (xsP X (wK X kIsKept kIsStale hiLatest hiSize scBytes scTold scLength scFault scAt scNumber piSegmentsNow enKind enX enY enLower enFromX enFromY enToX enToY tiTouching tiLyingAlong tiMeetingPairs tiAlongPairs tiSize evX evY evLower evBundle evCrossingOf evEventOf evLeftEvent evRightEvent evSize evCrossings evSegmentsNow grDegree grEdges grFar grQueue grQueued huX huY huSize huBestX huBestY S Rw) [.ref (xsA X 8), .int a0]) (xsQi X out (wK X kIsKept kIsStale hiLatest hiSize scBytes scTold scLength scFault scAt scNumber piSegmentsNow enKind enX enY enLower enFromX enFromY enToX enToY tiTouching tiLyingAlong tiMeetingPairs tiAlongPairs tiSize evX evY evLower evBundle evCrossingOf evEventOf evLeftEvent evRightEvent evSize evCrossings evSegmentsNow grDegree grEdges grFar grQueue grQueued huX huY huSize huBestX huBestY S Rw)) 0 0 (xsF X) := by
  refine xs_meth RX9 (by decide) rfl (Nat.le_of_ble_eq_true rfl) ?_
  intro p e s m below meth c ls H locs C hP hD hS hr hlk hl
  have hx := C.1
  have hb := C.2.1
  have hl : lv_has ls 4 [(0, .ref (xsA X 8)), (1, .int a0)] := hl
  obtain ⟨Qq, hQq⟩ : ∃ Qq, Qq = xsQi X out (wK X kIsKept kIsStale hiLatest hiSize scBytes scTold scLength scFault scAt scNumber piSegmentsNow enKind enX enY enLower enFromX enFromY enToX enToY tiTouching tiLyingAlong tiMeetingPairs tiAlongPairs tiSize evX evY evLower evBundle evCrossingOf evEventOf evLeftEvent evRightEvent evSize evCrossings evSegmentsNow grDegree grEdges grFar grQueue grQueued huX huY huSize huBestX huBestY S Rw) := ⟨_, rfl⟩
  rw [← hQq]
  unfold fX9_pairsMeetingIn at hf
  refine lv_iconst (v := (0 : Int32)) hx hb dX9_pairsMeetingIn_0 (by decide) ?_
  refine lv_istore_n (lv' := [(2, .int (0 : Int32)), (0, .ref (xsA X 8)), (1, .int a0)]) hx hb dX9_pairsMeetingIn_1 rfl hl (by decide) rfl (fun ls hl => ?_)
  refine lv_iconst (v := (0 : Int32)) hx hb dX9_pairsMeetingIn_2 (by decide) ?_
  refine lv_istore_n (lv' := [(3, .int (0 : Int32)), (2, .int (0 : Int32)), (0, .ref (xsA X 8)), (1, .int a0)]) hx hb dX9_pairsMeetingIn_3 rfl hl (by decide) rfl (fun ls hl => ?_)
  have K3 : ∀ (y4 : Int32) (hf : fX9_pairsMeetingIn_J44 y4 = some out) (H : Heap) (locs : List Loc) (ls : Array Slot), va_P (xsD X) vwCl (wK X kIsKept kIsStale hiLatest hiSize scBytes scTold scLength scFault scAt scNumber piSegmentsNow enKind enX enY enLower enFromX enFromY enToX enToY tiTouching tiLyingAlong tiMeetingPairs tiAlongPairs tiSize evX evY evLower evBundle evCrossingOf evEventOf evLeftEvent evRightEvent evSize evCrossings evSegmentsNow grDegree grEdges grFar grQueue grQueued huX huY huSize huBestX huBestY S Rw) H → va_D (xsF X) (wK X kIsKept kIsStale hiLatest hiSize scBytes scTold scLength scFault scAt scNumber piSegmentsNow enKind enX enY enLower enFromX enFromY enToX enToY tiTouching tiLyingAlong tiMeetingPairs tiAlongPairs tiSize evX evY evLower evBundle evCrossingOf evEventOf evLeftEvent evRightEvent evSize evCrossings evSegmentsNow grDegree grEdges grFar grQueue grQueued huX huY huSize huBestX huBestY S Rw) → va_S (xsF X) s.heap H locs → lv_has ls 4 [(2, .int y4)] → W p l e { frames := 1, cells := 0, slots := 0, locals := 21 } s m ([.ref (xsA X 8), .int a0] : List Value).toArray below meth c H locs 0 0 (MQ below Qq ([.ref (xsA X 8), .int a0] : List Value).toArray s 0 0 (xsF X)) (F0 m 44 ls []) := by
    intro y4 hf H locs ls hP hD hS hl
    unfold fX9_pairsMeetingIn_J44 at hf
    refine lv_iload_n hx hb dX9_pairsMeetingIn_44 rfl (lv_at hl 0 rfl) ?_
    refine lv_iconst (v := (1 : Int32)) hx hb dX9_pairsMeetingIn_45 (by decide) ?_
    refine lv_ishr hx hb dX9_pairsMeetingIn_46 ?_
    have ho := Option.some.inj hf
    subst ho
    rw [hQq]
    exact xs_iret C hr hlk hP hD hS dX9_pairsMeetingIn_47
  replace hf := xsBd_use hf
  obtain ⟨r3, hk30, hf⟩ := hf
  have L3 : ∀ (sg : Int32 × Int32) (rg : Int32), xsWh (fun s3 => fX9_pairsMeetingIn_L4 tiLyingAlong tiSize a0 s3.1 s3.2) sg = some rg → (fX9_pairsMeetingIn_J44 rg = some out → ∀ (H : Heap) (locs : List Loc) (ls : Array Slot), va_P (xsD X) vwCl (wK X kIsKept kIsStale hiLatest hiSize scBytes scTold scLength scFault scAt scNumber piSegmentsNow enKind enX enY enLower enFromX enFromY enToX enToY tiTouching tiLyingAlong tiMeetingPairs tiAlongPairs tiSize evX evY evLower evBundle evCrossingOf evEventOf evLeftEvent evRightEvent evSize evCrossings evSegmentsNow grDegree grEdges grFar grQueue grQueued huX huY huSize huBestX huBestY S Rw) H → va_D (xsF X) (wK X kIsKept kIsStale hiLatest hiSize scBytes scTold scLength scFault scAt scNumber piSegmentsNow enKind enX enY enLower enFromX enFromY enToX enToY tiTouching tiLyingAlong tiMeetingPairs tiAlongPairs tiSize evX evY evLower evBundle evCrossingOf evEventOf evLeftEvent evRightEvent evSize evCrossings evSegmentsNow grDegree grEdges grFar grQueue grQueued huX huY huSize huBestX huBestY S Rw) → va_S (xsF X) s.heap H locs → lv_has ls 4 [(0, .ref (xsA X 8)), (1, .int a0), (2, .int sg.1), (3, .int sg.2)] → W p l e { frames := 1, cells := 0, slots := 0, locals := 21 } s m ([.ref (xsA X 8), .int a0] : List Value).toArray below meth c H locs 0 0 (MQ below Qq ([.ref (xsA X 8), .int a0] : List Value).toArray s 0 0 (xsF X)) (F0 m 4 ls [])) := by
    refine xsWh_ind ?_
    intro sg r3 u3 hf ih3 hx3 hk3 H locs ls hP hD hS hl
    obtain ⟨y1, y2⟩ := sg
    replace hf : fX9_pairsMeetingIn_L4 tiLyingAlong tiSize a0 y1 y2 = some u3 := hf
    replace hl : lv_has ls 4 [(0, .ref (xsA X 8)), (1, .int a0), (2, .int y1), (3, .int y2)] := hl
    replace hP : va_P (xsD X) vwCl (wK X kIsKept kIsStale hiLatest hiSize scBytes scTold scLength scFault scAt scNumber piSegmentsNow enKind enX enY enLower enFromX enFromY enToX enToY tiTouching tiLyingAlong tiMeetingPairs tiAlongPairs tiSize evX evY evLower evBundle evCrossingOf evEventOf evLeftEvent evRightEvent evSize evCrossings evSegmentsNow grDegree grEdges grFar grQueue grQueued huX huY huSize huBestX huBestY S Rw) H := hP
    replace hD : va_D (xsF X) (wK X kIsKept kIsStale hiLatest hiSize scBytes scTold scLength scFault scAt scNumber piSegmentsNow enKind enX enY enLower enFromX enFromY enToX enToY tiTouching tiLyingAlong tiMeetingPairs tiAlongPairs tiSize evX evY evLower evBundle evCrossingOf evEventOf evLeftEvent evRightEvent evSize evCrossings evSegmentsNow grDegree grEdges grFar grQueue grQueued huX huY huSize huBestX huBestY S Rw) := hD
    unfold fX9_pairsMeetingIn_L4 at hf
    refine lv_iload_n hx hb dX9_pairsMeetingIn_4 rfl (lv_at hl 3 rfl) ?_
    refine lv_aload_n hx hb dX9_pairsMeetingIn_5 rfl (lv_at hl 0 rfl) ?_
    refine xg_X9_25 C hP dX9_pairsMeetingIn_6 ?_
    refine lv_icmp_ge (tgt := 44) hx hb dX9_pairsMeetingIn_9 (by decide) (fun c17 => ?_) (fun c17 => ?_)
    · replace hf := xsBr_t c17 hf
      have ez := hx3 _ (Option.some.inj hf).symm
      subst ez
      exact K3 y1 hk3 H locs ls hP hD hS (lv_sub hl [2] rfl)
    · replace hf := xsBr_f c17 hf
      refine lv_iload_n hx hb dX9_pairsMeetingIn_12 rfl (lv_at hl 1 rfl) ?_
      refine lv_iload_n hx hb dX9_pairsMeetingIn_13 rfl (lv_at hl 3 rfl) ?_
      replace hf := xsBd_use hf
      obtain ⟨o5, h6, hf⟩ := hf
      refine xs_calli hS (xs_runSN (As := [.int a0, .int y2]) C (mX10_has l  h6) C.2.2.2.2.2.2.2.1.1 w_605 w_105 w_606 hd_X10_has ⟨rfl, rfl, Nat.le_of_ble_eq_true rfl, Nat.le_of_ble_eq_true rfl, Nat.zero_le _, Nat.zero_le _⟩ hP hD hS hl.1 rfl (Nat.le_of_ble_eq_true rfl) dX9_pairsMeetingIn_14) (fun H locs hP hD hS => ?_)
      have K11 : ∀ (y7 : Int32) (hf : fX9_pairsMeetingIn_J38 y2 y7 = some u3) (H : Heap) (locs : List Loc) (ls : Array Slot), va_P (xsD X) vwCl (wK X kIsKept kIsStale hiLatest hiSize scBytes scTold scLength scFault scAt scNumber piSegmentsNow enKind enX enY enLower enFromX enFromY enToX enToY tiTouching tiLyingAlong tiMeetingPairs tiAlongPairs tiSize evX evY evLower evBundle evCrossingOf evEventOf evLeftEvent evRightEvent evSize evCrossings evSegmentsNow grDegree grEdges grFar grQueue grQueued huX huY huSize huBestX huBestY S Rw) H → va_D (xsF X) (wK X kIsKept kIsStale hiLatest hiSize scBytes scTold scLength scFault scAt scNumber piSegmentsNow enKind enX enY enLower enFromX enFromY enToX enToY tiTouching tiLyingAlong tiMeetingPairs tiAlongPairs tiSize evX evY evLower evBundle evCrossingOf evEventOf evLeftEvent evRightEvent evSize evCrossings evSegmentsNow grDegree grEdges grFar grQueue grQueued huX huY huSize huBestX huBestY S Rw) → va_S (xsF X) s.heap H locs → lv_has ls 4 [(0, .ref (xsA X 8)), (1, .int a0), (2, .int y7), (3, .int y2)] → W p l e { frames := 1, cells := 0, slots := 0, locals := 21 } s m ([.ref (xsA X 8), .int a0] : List Value).toArray below meth c H locs 0 0 (MQ below Qq ([.ref (xsA X 8), .int a0] : List Value).toArray s 0 0 (xsF X)) (F0 m 38 ls []) := by
        intro y7 hf H locs ls hP hD hS hl
        unfold fX9_pairsMeetingIn_J38 at hf
        obtain ⟨x8, ex8⟩ : ∃ y : Int32, y = y2 + (1 : Int32) := ⟨_, rfl⟩
        replace hf := xsLt_use ex8 hf
        refine lv_iinc (v := x8) (lv' := [(3, .int x8), (0, .ref (xsA X 8)), (1, .int a0), (2, .int y7)]) hx hb dX9_pairsMeetingIn_38 hl (k := 3) rfl (by rw [ex8]; rfl) (by decide) rfl (fun ls hl => ?_)
        refine lv_goto (tgt := 4) hx hb dX9_pairsMeetingIn_41 (by decide) ?_
        exact ih3 _ (Option.some.inj hf).symm hk3 H locs ls hP hD hS (lv_sub hl [1, 2, 3, 0] rfl)
      replace hf := xsBd_use hf
      obtain ⟨v9, hf, hk10⟩ := hf
      refine lv_if_eq (tgt := 38) hx hb dX9_pairsMeetingIn_17 (by decide) (fun c16 => ?_) (fun c16 => ?_)
      · replace hf := xsBr_t c16 hf
        have ev := Option.some.inj hf
        subst ev
        exact K11 y1 hk10 H locs ls hP hD hS (lv_sub hl [0, 1, 2, 3] rfl)
      · replace hf := xsBr_f c16 hf
        refine lv_iload_n hx hb dX9_pairsMeetingIn_20 rfl (lv_at hl 2 rfl) ?_
        refine lv_iload_n hx hb dX9_pairsMeetingIn_21 rfl (lv_at hl 1 rfl) ?_
        refine lv_aload_n hx hb dX9_pairsMeetingIn_22 rfl (lv_at hl 0 rfl) ?_
        refine xg_X9_15 C hP dX9_pairsMeetingIn_23 ?_
        refine lv_iload_n hx hb dX9_pairsMeetingIn_26 rfl (lv_at hl 3 rfl) ?_
        replace hf := xsCk_use hf
        obtain ⟨h12, hf⟩ := hf
        refine xl_tiLyingAlong C hP h12 dX9_pairsMeetingIn_27 ?_
        refine lv_iconst (v := (-1 : Int32)) hx hb dX9_pairsMeetingIn_28 (by decide) ?_
        refine lv_ixor hx hb dX9_pairsMeetingIn_29 ?_
        refine lv_iand hx hb dX9_pairsMeetingIn_30 ?_
        replace hf := xsBd_use hf
        obtain ⟨o13, h14, hf⟩ := hf
        refine xs_calli hS (xs_runS (As := [.int (a0 &&& ((tiLyingAlong y2.toNatClampNeg) ^^^ (-1 : Int32)))]) C (mJ6_bitCount_0f7a4 l  h14) w_607 w_608 w_128 w_609 hd_J6_bitCount_0f7a4 ⟨rfl, rfl, Nat.le_of_ble_eq_true rfl, Nat.le_of_ble_eq_true rfl, Nat.zero_le _, Nat.zero_le _⟩ hP hD hS hl.1 rfl (Nat.le_of_ble_eq_true rfl) dX9_pairsMeetingIn_31) (fun H locs hP hD hS => ?_)
        refine lv_iconst (v := (1 : Int32)) hx hb dX9_pairsMeetingIn_34 (by decide) ?_
        refine lv_isub hx hb dX9_pairsMeetingIn_35 ?_
        refine lv_iadd hx hb dX9_pairsMeetingIn_36 ?_
        refine lv_topi (fun x15 ex15 => ?_)
        replace hf := xsLt_use ex15 hf
        refine lv_istore_n (lv' := [(2, .int x15), (0, .ref (xsA X 8)), (1, .int a0), (3, .int y2)]) hx hb dX9_pairsMeetingIn_37 rfl hl (by decide) rfl (fun ls hl => ?_)
        have ev := Option.some.inj hf
        subst ev
        exact K11 x15 hk10 H locs ls hP hD hS (lv_sub hl [1, 2, 0, 3] rfl)
  exact L3 ((0 : Int32), (0 : Int32)) r3 hk30 hf H locs ls hP hD hS (lv_sub hl [2, 3, 1, 0] rfl)
set_option maxRecDepth 100000 in
set_option maxHeartbeats 8000000 in
theorem mX1_gather (l : Launch) {X : xsX} {kIsKept kIsStale hiLatest hiSize scLength scFault scAt scNumber piSegmentsNow enKind enFromX enFromY enToX enToY tiMeetingPairs tiAlongPairs tiSize evSize evCrossings evSegmentsNow grEdges grQueued huSize huBestX huBestY : Int32} {scBytes scTold tiTouching tiLyingAlong evBundle evCrossingOf evEventOf evLeftEvent evRightEvent grDegree grFar grQueue huX huY : Nat → Int32} {enX enY enLower : Int64} {evX evY evLower : Nat → Int64} {S : Nat → xsV} {Rw : va_W} {js : Nat} (hjs : js < 12) {sLx sLy sRx sRy sTi : Nat → Int32} {sSz : Int32} (hs_s : S js = (sLx, sLy, sRx, sRy, sTi, sSz)) {out : (Nat → Int32) × (Nat → Int32) × (Nat → Int32) × (Nat → Int32) × (Nat → Int32) × Int32 × Int32} (hf : fX1_gather tiLyingAlong tiSize evX evY evLower evBundle evCrossingOf evEventOf evLeftEvent evRightEvent evSize evCrossings evSegmentsNow sLx sLy sRx sRy sSz = some out) : Met l yX1_gather (xsWs yX1_gather cX1_gather 4 none) { frames := 3, cells := 0, slots := 0, locals := 81 } (xsP X (wK X kIsKept kIsStale hiLatest hiSize scBytes scTold scLength scFault scAt scNumber piSegmentsNow enKind enX enY enLower enFromX enFromY enToX enToY tiTouching tiLyingAlong tiMeetingPairs tiAlongPairs tiSize evX evY evLower evBundle evCrossingOf evEventOf evLeftEvent evRightEvent evSize evCrossings evSegmentsNow grDegree grEdges grFar grQueue grQueued huX huY huSize huBestX huBestY S Rw) [.ref (xsA X 11), .ref (xsA X (27 + 6 * js)), .ref (xsA X 8)]) (xsQv X (wK X kIsKept kIsStale hiLatest hiSize scBytes scTold scLength scFault scAt scNumber piSegmentsNow enKind enX enY enLower enFromX enFromY enToX enToY tiTouching tiLyingAlong tiMeetingPairs tiAlongPairs tiSize evX evY evLower out.1 out.2.1 out.2.2.1 out.2.2.2.1 out.2.2.2.2.1 evSize out.2.2.2.2.2.1 out.2.2.2.2.2.2 grDegree grEdges grFar grQueue grQueued huX huY huSize huBestX huBestY S Rw)) 0 0 (xsF X) := by
  refine xs_meth RX1 (by decide) rfl (Nat.le_of_ble_eq_true rfl) ?_
  intro p e s m below meth c ls H locs C hP hD hS hr hlk hl
  have hx := C.1
  have hb := C.2.1
  have hl : lv_has ls 4 [(0, .ref (xsA X 11)), (1, .ref (xsA X (27 + 6 * js))), (2, .ref (xsA X 8))] := hl
  obtain ⟨Qq, hQq⟩ : ∃ Qq, Qq = xsQv X (wK X kIsKept kIsStale hiLatest hiSize scBytes scTold scLength scFault scAt scNumber piSegmentsNow enKind enX enY enLower enFromX enFromY enToX enToY tiTouching tiLyingAlong tiMeetingPairs tiAlongPairs tiSize evX evY evLower out.1 out.2.1 out.2.2.1 out.2.2.2.1 out.2.2.2.2.1 evSize out.2.2.2.2.2.1 out.2.2.2.2.2.2 grDegree grEdges grFar grQueue grQueued huX huY huSize huBestX huBestY S Rw) := ⟨_, rfl⟩
  rw [← hQq]
  unfold fX1_gather at hf
  refine lv_aload_n hx hb dX1_gather_0 rfl (lv_at hl 0 rfl) ?_
  refine lv_aload_n hx hb dX1_gather_1 rfl (lv_at hl 1 rfl) ?_
  refine xg_X1_60 (j := js) hjs hs_s C hP dX1_gather_2 ?_
  refine xp_X1_44 C hP hD hS dX1_gather_5 (fun H locs hP hD hS => ?_)
  refine lv_iconst (v := (0 : Int32)) hx hb dX1_gather_8 (by decide) ?_
  refine lv_istore_n (lv' := [(3, .int (0 : Int32)), (0, .ref (xsA X 11)), (1, .ref (xsA X (27 + 6 * js))), (2, .ref (xsA X 8))]) hx hb dX1_gather_9 rfl hl (by decide) rfl (fun ls hl => ?_)
  have K4 : ∀ (y5 : Nat → Int32) (y6 : Nat → Int32) (hf : fX1_gather_J74 tiLyingAlong tiSize evX evY evLower evBundle evCrossingOf evEventOf evSize evCrossings sLx sLy sRx sRy sSz y5 y6 = some out) (H : Heap) (locs : List Loc) (ls : Array Slot), va_P (xsD X) vwCl (wK X kIsKept kIsStale hiLatest hiSize scBytes scTold scLength scFault scAt scNumber piSegmentsNow enKind enX enY enLower enFromX enFromY enToX enToY tiTouching tiLyingAlong tiMeetingPairs tiAlongPairs tiSize evX evY evLower evBundle evCrossingOf evEventOf y5 y6 evSize evCrossings sSz grDegree grEdges grFar grQueue grQueued huX huY huSize huBestX huBestY S Rw) H → va_D (xsF X) (wK X kIsKept kIsStale hiLatest hiSize scBytes scTold scLength scFault scAt scNumber piSegmentsNow enKind enX enY enLower enFromX enFromY enToX enToY tiTouching tiLyingAlong tiMeetingPairs tiAlongPairs tiSize evX evY evLower evBundle evCrossingOf evEventOf y5 y6 evSize evCrossings sSz grDegree grEdges grFar grQueue grQueued huX huY huSize huBestX huBestY S Rw) → va_S (xsF X) s.heap H locs → lv_has ls 4 [(0, .ref (xsA X 11)), (1, .ref (xsA X (27 + 6 * js))), (2, .ref (xsA X 8))] → W p l e { frames := 3, cells := 0, slots := 0, locals := 81 } s m ([.ref (xsA X 11), .ref (xsA X (27 + 6 * js)), .ref (xsA X 8)] : List Value).toArray below meth c H locs 0 0 (MQ below Qq ([.ref (xsA X 11), .ref (xsA X (27 + 6 * js)), .ref (xsA X 8)] : List Value).toArray s 0 0 (xsF X)) (F0 m 74 ls []) := by
    intro y5 y6 hf H locs ls hP hD hS hl
    unfold fX1_gather_J74 at hf
    refine lv_iconst (v := (0 : Int32)) hx hb dX1_gather_74 (by decide) ?_
    refine lv_istore_n (lv' := [(3, .int (0 : Int32)), (0, .ref (xsA X 11)), (1, .ref (xsA X (27 + 6 * js))), (2, .ref (xsA X 8))]) hx hb dX1_gather_75 rfl hl (by decide) rfl (fun ls hl => ?_)
    have K12 : ∀ (y13 : Nat → Int32) (y14 : Nat → Int32) (y15 : Nat → Int32) (y16 : Int32) (hf : fX1_gather_J152 sSz y5 y6 y13 y14 y15 y16 = some out) (H : Heap) (locs : List Loc) (ls : Array Slot), va_P (xsD X) vwCl (wK X kIsKept kIsStale hiLatest hiSize scBytes scTold scLength scFault scAt scNumber piSegmentsNow enKind enX enY enLower enFromX enFromY enToX enToY tiTouching tiLyingAlong tiMeetingPairs tiAlongPairs tiSize evX evY evLower y13 y14 y15 y5 y6 evSize y16 sSz grDegree grEdges grFar grQueue grQueued huX huY huSize huBestX huBestY S Rw) H → va_D (xsF X) (wK X kIsKept kIsStale hiLatest hiSize scBytes scTold scLength scFault scAt scNumber piSegmentsNow enKind enX enY enLower enFromX enFromY enToX enToY tiTouching tiLyingAlong tiMeetingPairs tiAlongPairs tiSize evX evY evLower y13 y14 y15 y5 y6 evSize y16 sSz grDegree grEdges grFar grQueue grQueued huX huY huSize huBestX huBestY S Rw) → va_S (xsF X) s.heap H locs → lv_has ls 4 [] → W p l e { frames := 3, cells := 0, slots := 0, locals := 81 } s m ([.ref (xsA X 11), .ref (xsA X (27 + 6 * js)), .ref (xsA X 8)] : List Value).toArray below meth c H locs 0 0 (MQ below Qq ([.ref (xsA X 11), .ref (xsA X (27 + 6 * js)), .ref (xsA X 8)] : List Value).toArray s 0 0 (xsF X)) (F0 m 152 ls []) := by
      intro y13 y14 y15 y16 hf H locs ls hP hD hS hl
      unfold fX1_gather_J152 at hf
      have ho := Option.some.inj hf
      subst ho
      rw [hQq]
      exact xs_vret C hr hlk hP hD hS dX1_gather_152
    replace hf := xsBd_use hf
    obtain ⟨r12, hk120, hf⟩ := hf
    have L12 : ∀ (sg : Int32 × (Nat → Int32) × (Nat → Int32) × (Nat → Int32) × Int32) (rg : (Nat → Int32) × (Nat → Int32) × (Nat → Int32) × Int32), xsWh (fun s12 => fX1_gather_L76 tiLyingAlong tiSize evX evY evLower evSize sLx sLy sRx sRy sSz y5 y6 s12.1 s12.2.1 s12.2.2.1 s12.2.2.2.1 s12.2.2.2.2) sg = some rg → (fX1_gather_J152 sSz y5 y6 rg.1 rg.2.1 rg.2.2.1 rg.2.2.2 = some out → ∀ (H : Heap) (locs : List Loc) (ls : Array Slot), va_P (xsD X) vwCl (wK X kIsKept kIsStale hiLatest hiSize scBytes scTold scLength scFault scAt scNumber piSegmentsNow enKind enX enY enLower enFromX enFromY enToX enToY tiTouching tiLyingAlong tiMeetingPairs tiAlongPairs tiSize evX evY evLower sg.2.1 sg.2.2.1 sg.2.2.2.1 y5 y6 evSize sg.2.2.2.2 sSz grDegree grEdges grFar grQueue grQueued huX huY huSize huBestX huBestY S Rw) H → va_D (xsF X) (wK X kIsKept kIsStale hiLatest hiSize scBytes scTold scLength scFault scAt scNumber piSegmentsNow enKind enX enY enLower enFromX enFromY enToX enToY tiTouching tiLyingAlong tiMeetingPairs tiAlongPairs tiSize evX evY evLower sg.2.1 sg.2.2.1 sg.2.2.2.1 y5 y6 evSize sg.2.2.2.2 sSz grDegree grEdges grFar grQueue grQueued huX huY huSize huBestX huBestY S Rw) → va_S (xsF X) s.heap H locs → lv_has ls 4 [(0, .ref (xsA X 11)), (1, .ref (xsA X (27 + 6 * js))), (2, .ref (xsA X 8)), (3, .int sg.1)] → W p l e { frames := 3, cells := 0, slots := 0, locals := 81 } s m ([.ref (xsA X 11), .ref (xsA X (27 + 6 * js)), .ref (xsA X 8)] : List Value).toArray below meth c H locs 0 0 (MQ below Qq ([.ref (xsA X 11), .ref (xsA X (27 + 6 * js)), .ref (xsA X 8)] : List Value).toArray s 0 0 (xsF X)) (F0 m 76 ls [])) := by
      refine xsWh_ind ?_
      intro sg r12 u12 hf ih12 hx12 hk12 H locs ls hP hD hS hl
      obtain ⟨y7, y8, y9, y10, y11⟩ := sg
      replace hf : fX1_gather_L76 tiLyingAlong tiSize evX evY evLower evSize sLx sLy sRx sRy sSz y5 y6 y7 y8 y9 y10 y11 = some u12 := hf
      replace hl : lv_has ls 4 [(0, .ref (xsA X 11)), (1, .ref (xsA X (27 + 6 * js))), (2, .ref (xsA X 8)), (3, .int y7)] := hl
      replace hP : va_P (xsD X) vwCl (wK X kIsKept kIsStale hiLatest hiSize scBytes scTold scLength scFault scAt scNumber piSegmentsNow enKind enX enY enLower enFromX enFromY enToX enToY tiTouching tiLyingAlong tiMeetingPairs tiAlongPairs tiSize evX evY evLower y8 y9 y10 y5 y6 evSize y11 sSz grDegree grEdges grFar grQueue grQueued huX huY huSize huBestX huBestY S Rw) H := hP
      replace hD : va_D (xsF X) (wK X kIsKept kIsStale hiLatest hiSize scBytes scTold scLength scFault scAt scNumber piSegmentsNow enKind enX enY enLower enFromX enFromY enToX enToY tiTouching tiLyingAlong tiMeetingPairs tiAlongPairs tiSize evX evY evLower y8 y9 y10 y5 y6 evSize y11 sSz grDegree grEdges grFar grQueue grQueued huX huY huSize huBestX huBestY S Rw) := hD
      unfold fX1_gather_L76 at hf
      refine lv_iload_n hx hb dX1_gather_76 rfl (lv_at hl 3 rfl) ?_
      refine lv_aload_n hx hb dX1_gather_77 rfl (lv_at hl 0 rfl) ?_
      refine xg_X1_37 C hP dX1_gather_78 ?_
      refine lv_icmp_ge (tgt := 152) hx hb dX1_gather_81 (by decide) (fun c39 => ?_) (fun c39 => ?_)
      · replace hf := xsBr_t c39 hf
        have ez := hx12 _ (Option.some.inj hf).symm
        subst ez
        exact K12 y8 y9 y10 y11 hk12 H locs ls hP hD hS (lv_sub hl [] rfl)
      · replace hf := xsBr_f c39 hf
        refine lv_aload_n hx hb dX1_gather_84 rfl (lv_at hl 0 rfl) ?_
        refine xg_X1_21 C hP dX1_gather_85 ?_
        refine lv_iload_n hx hb dX1_gather_88 rfl (lv_at hl 3 rfl) ?_
        refine lv_aload_n hx hb dX1_gather_89 rfl (lv_at hl 0 rfl) ?_
        refine lv_aload_n hx hb dX1_gather_90 rfl (lv_at hl 1 rfl) ?_
        refine lv_iload_n hx hb dX1_gather_91 rfl (lv_at hl 3 rfl) ?_
        replace hf := xsBd_use hf
        obtain ⟨o17, h18, hf⟩ := hf
        refine xs_calli hS (xs_runV (As := [.ref (xsA X (27 + 6 * js)), .int y7]) C (mX1_bundleOf l (js := js) hjs hs_s h18) w_590 w_592 w_6 w_112 w_593 hd_X1_bundleOf ⟨rfl, rfl, Nat.le_of_ble_eq_true rfl, Nat.le_of_ble_eq_true rfl, Nat.zero_le _, Nat.zero_le _⟩ hP hD hS lk_X1 rfl hl.1 rfl (Nat.le_of_ble_eq_true rfl) dX1_gather_92) (fun H locs hP hD hS => ?_)
        replace hf := xsCk_use hf
        obtain ⟨h19, hf⟩ := hf
        refine xs_evBundle C hP hD hS h19 dX1_gather_95 (fun f20 ef20 H locs hP hD hS => ?_)
        replace hf := xsLt_use ef20 hf
        refine lv_aload_n hx hb dX1_gather_96 rfl (lv_at hl 0 rfl) ?_
        refine xg_X1_25 C hP dX1_gather_97 ?_
        refine lv_iload_n hx hb dX1_gather_100 rfl (lv_at hl 3 rfl) ?_
        refine lv_iconst (v := (-1 : Int32)) hx hb dX1_gather_101 (by decide) ?_
        replace hf := xsCk_use hf
        obtain ⟨h21, hf⟩ := hf
        refine xs_evCrossingOf C hP hD hS h21 dX1_gather_102 (fun f22 ef22 H locs hP hD hS => ?_)
        replace hf := xsLt_use ef22 hf
        refine lv_aload_n hx hb dX1_gather_103 rfl (lv_at hl 2 rfl) ?_
        refine lv_aload_n hx hb dX1_gather_104 rfl (lv_at hl 0 rfl) ?_
        refine xg_X1_21 C hP dX1_gather_105 ?_
        refine lv_iload_n hx hb dX1_gather_108 rfl (lv_at hl 3 rfl) ?_
        replace hf := xsCk_use hf
        obtain ⟨h23, hf⟩ := hf
        refine xl_evBundle C hP h23 dX1_gather_109 ?_
        replace hf := xsBd_use hf
        obtain ⟨o24, h25, hf⟩ := hf
        refine xs_calli hS (xs_runV (As := [.int (f20 y7.toNatClampNeg)]) C (mX9_pairsMeetingIn l  h25) w_600 w_601 w_602 w_111 w_603 hd_X9_pairsMeetingIn ⟨rfl, rfl, Nat.le_of_ble_eq_true rfl, Nat.le_of_ble_eq_true rfl, Nat.zero_le _, Nat.zero_le _⟩ hP hD hS lk_X9 rfl hl.1 rfl (Nat.le_of_ble_eq_true rfl) dX1_gather_110) (fun H locs hP hD hS => ?_)
        have K32 : ∀ (y26 : Nat → Int32) (y27 : Nat → Int32) (y28 : Int32) (hf : fX1_gather_J146 y7 f20 y26 y27 y28 = some u12) (H : Heap) (locs : List Loc) (ls : Array Slot), va_P (xsD X) vwCl (wK X kIsKept kIsStale hiLatest hiSize scBytes scTold scLength scFault scAt scNumber piSegmentsNow enKind enX enY enLower enFromX enFromY enToX enToY tiTouching tiLyingAlong tiMeetingPairs tiAlongPairs tiSize evX evY evLower f20 y26 y27 y5 y6 evSize y28 sSz grDegree grEdges grFar grQueue grQueued huX huY huSize huBestX huBestY S Rw) H → va_D (xsF X) (wK X kIsKept kIsStale hiLatest hiSize scBytes scTold scLength scFault scAt scNumber piSegmentsNow enKind enX enY enLower enFromX enFromY enToX enToY tiTouching tiLyingAlong tiMeetingPairs tiAlongPairs tiSize evX evY evLower f20 y26 y27 y5 y6 evSize y28 sSz grDegree grEdges grFar grQueue grQueued huX huY huSize huBestX huBestY S Rw) → va_S (xsF X) s.heap H locs → lv_has ls 4 [(0, .ref (xsA X 11)), (1, .ref (xsA X (27 + 6 * js))), (2, .ref (xsA X 8)), (3, .int y7)] → W p l e { frames := 3, cells := 0, slots := 0, locals := 81 } s m ([.ref (xsA X 11), .ref (xsA X (27 + 6 * js)), .ref (xsA X 8)] : List Value).toArray below meth c H locs 0 0 (MQ below Qq ([.ref (xsA X 11), .ref (xsA X (27 + 6 * js)), .ref (xsA X 8)] : List Value).toArray s 0 0 (xsF X)) (F0 m 146 ls []) := by
          intro y26 y27 y28 hf H locs ls hP hD hS hl
          unfold fX1_gather_J146 at hf
          obtain ⟨x29, ex29⟩ : ∃ y : Int32, y = y7 + (1 : Int32) := ⟨_, rfl⟩
          replace hf := xsLt_use ex29 hf
          refine lv_iinc (v := x29) (lv' := [(3, .int x29), (0, .ref (xsA X 11)), (1, .ref (xsA X (27 + 6 * js))), (2, .ref (xsA X 8))]) hx hb dX1_gather_146 hl (k := 3) rfl (by rw [ex29]; rfl) (by decide) rfl (fun ls hl => ?_)
          refine lv_goto (tgt := 76) hx hb dX1_gather_149 (by decide) ?_
          exact ih12 _ (Option.some.inj hf).symm hk12 H locs ls hP hD hS (lv_sub hl [1, 2, 3, 0] rfl)
        replace hf := xsBd_use hf
        obtain ⟨v30, hf, hk31⟩ := hf
        refine lv_if_le (tgt := 146) hx hb dX1_gather_113 (by decide) (fun c38 => ?_) (fun c38 => ?_)
        · replace hf := xsBr_t c38 hf
          have ev := Option.some.inj hf
          subst ev
          exact K32 f22 y10 y11 hk31 H locs ls hP hD hS (lv_sub hl [0, 1, 2, 3] rfl)
        · replace hf := xsBr_f c38 hf
          refine lv_aload_n hx hb dX1_gather_116 rfl (lv_at hl 0 rfl) ?_
          refine xg_X1_25 C hP dX1_gather_117 ?_
          refine lv_iload_n hx hb dX1_gather_120 rfl (lv_at hl 3 rfl) ?_
          refine lv_aload_n hx hb dX1_gather_121 rfl (lv_at hl 0 rfl) ?_
          refine xg_X1_41 C hP dX1_gather_122 ?_
          replace hf := xsCk_use hf
          obtain ⟨h33, hf⟩ := hf
          refine xs_evCrossingOf C hP hD hS h33 dX1_gather_125 (fun f34 ef34 H locs hP hD hS => ?_)
          replace hf := xsLt_use ef34 hf
          refine lv_aload_n hx hb dX1_gather_126 rfl (lv_at hl 0 rfl) ?_
          refine xg_X1_28 C hP dX1_gather_127 ?_
          refine lv_aload_n hx hb dX1_gather_130 rfl (lv_at hl 0 rfl) ?_
          refine xg_X1_41 C hP dX1_gather_131 ?_
          refine lv_iload_n hx hb dX1_gather_134 rfl (lv_at hl 3 rfl) ?_
          replace hf := xsCk_use hf
          obtain ⟨h35, hf⟩ := hf
          refine xs_evEventOf C hP hD hS h35 dX1_gather_135 (fun f36 ef36 H locs hP hD hS => ?_)
          replace hf := xsLt_use ef36 hf
          refine lv_aload_n hx hb dX1_gather_136 rfl (lv_at hl 0 rfl) ?_
          refine lv_dup hx hb dX1_gather_137 rfl ?_
          refine xg_X1_41 C hP dX1_gather_138 ?_
          refine lv_iconst (v := (1 : Int32)) hx hb dX1_gather_141 (by decide) ?_
          refine lv_iadd hx hb dX1_gather_142 ?_
          refine lv_topi (fun x37 ex37 => ?_)
          replace hf := xsLt_use ex37 hf
          refine xp_X1_41 C hP hD hS dX1_gather_143 (fun H locs hP hD hS => ?_)
          have ev := Option.some.inj hf
          subst ev
          exact K32 f34 f36 x37 hk31 H locs ls hP hD hS (lv_sub hl [0, 1, 2, 3] rfl)
    exact L12 ((0 : Int32), evBundle, evCrossingOf, evEventOf, evCrossings) r12 hk120 hf H locs ls hP hD hS (lv_sub hl [1, 2, 3, 0] rfl)
  replace hf := xsBd_use hf
  obtain ⟨r4, hk40, hf⟩ := hf
  have L4 : ∀ (sg : Int32 × (Nat → Int32) × (Nat → Int32)) (rg : (Nat → Int32) × (Nat → Int32)), xsWh (fun s4 => fX1_gather_L10 evX evY evLower evSize sLx sLy sRx sRy sSz s4.1 s4.2.1 s4.2.2) sg = some rg → (fX1_gather_J74 tiLyingAlong tiSize evX evY evLower evBundle evCrossingOf evEventOf evSize evCrossings sLx sLy sRx sRy sSz rg.1 rg.2 = some out → ∀ (H : Heap) (locs : List Loc) (ls : Array Slot), va_P (xsD X) vwCl (wK X kIsKept kIsStale hiLatest hiSize scBytes scTold scLength scFault scAt scNumber piSegmentsNow enKind enX enY enLower enFromX enFromY enToX enToY tiTouching tiLyingAlong tiMeetingPairs tiAlongPairs tiSize evX evY evLower evBundle evCrossingOf evEventOf sg.2.1 sg.2.2 evSize evCrossings sSz grDegree grEdges grFar grQueue grQueued huX huY huSize huBestX huBestY S Rw) H → va_D (xsF X) (wK X kIsKept kIsStale hiLatest hiSize scBytes scTold scLength scFault scAt scNumber piSegmentsNow enKind enX enY enLower enFromX enFromY enToX enToY tiTouching tiLyingAlong tiMeetingPairs tiAlongPairs tiSize evX evY evLower evBundle evCrossingOf evEventOf sg.2.1 sg.2.2 evSize evCrossings sSz grDegree grEdges grFar grQueue grQueued huX huY huSize huBestX huBestY S Rw) → va_S (xsF X) s.heap H locs → lv_has ls 4 [(0, .ref (xsA X 11)), (1, .ref (xsA X (27 + 6 * js))), (2, .ref (xsA X 8)), (3, .int sg.1)] → W p l e { frames := 3, cells := 0, slots := 0, locals := 81 } s m ([.ref (xsA X 11), .ref (xsA X (27 + 6 * js)), .ref (xsA X 8)] : List Value).toArray below meth c H locs 0 0 (MQ below Qq ([.ref (xsA X 11), .ref (xsA X (27 + 6 * js)), .ref (xsA X 8)] : List Value).toArray s 0 0 (xsF X)) (F0 m 10 ls [])) := by
    refine xsWh_ind ?_
    intro sg r4 u4 hf ih4 hx4 hk4 H locs ls hP hD hS hl
    obtain ⟨y1, y2, y3⟩ := sg
    replace hf : fX1_gather_L10 evX evY evLower evSize sLx sLy sRx sRy sSz y1 y2 y3 = some u4 := hf
    replace hl : lv_has ls 4 [(0, .ref (xsA X 11)), (1, .ref (xsA X (27 + 6 * js))), (2, .ref (xsA X 8)), (3, .int y1)] := hl
    replace hP : va_P (xsD X) vwCl (wK X kIsKept kIsStale hiLatest hiSize scBytes scTold scLength scFault scAt scNumber piSegmentsNow enKind enX enY enLower enFromX enFromY enToX enToY tiTouching tiLyingAlong tiMeetingPairs tiAlongPairs tiSize evX evY evLower evBundle evCrossingOf evEventOf y2 y3 evSize evCrossings sSz grDegree grEdges grFar grQueue grQueued huX huY huSize huBestX huBestY S Rw) H := hP
    replace hD : va_D (xsF X) (wK X kIsKept kIsStale hiLatest hiSize scBytes scTold scLength scFault scAt scNumber piSegmentsNow enKind enX enY enLower enFromX enFromY enToX enToY tiTouching tiLyingAlong tiMeetingPairs tiAlongPairs tiSize evX evY evLower evBundle evCrossingOf evEventOf y2 y3 evSize evCrossings sSz grDegree grEdges grFar grQueue grQueued huX huY huSize huBestX huBestY S Rw) := hD
    unfold fX1_gather_L10 at hf
    refine lv_iload_n hx hb dX1_gather_10 rfl (lv_at hl 3 rfl) ?_
    refine lv_aload_n hx hb dX1_gather_11 rfl (lv_at hl 0 rfl) ?_
    refine xg_X1_44 C hP dX1_gather_12 ?_
    refine lv_icmp_ge (tgt := 74) hx hb dX1_gather_15 (by decide) (fun c53 => ?_) (fun c53 => ?_)
    · replace hf := xsBr_t c53 hf
      have ez := hx4 _ (Option.some.inj hf).symm
      subst ez
      exact K4 y2 y3 hk4 H locs ls hP hD hS (lv_sub hl [0, 1, 2] rfl)
    · replace hf := xsBr_f c53 hf
      refine lv_aload_n hx hb dX1_gather_18 rfl (lv_at hl 0 rfl) ?_
      refine xg_X1_31 C hP dX1_gather_19 ?_
      refine lv_iload_n hx hb dX1_gather_22 rfl (lv_at hl 3 rfl) ?_
      refine lv_aload_n hx hb dX1_gather_23 rfl (lv_at hl 0 rfl) ?_
      refine lv_aload_n hx hb dX1_gather_24 rfl (lv_at hl 1 rfl) ?_
      refine xg_X1_63 (j := js) hjs C hP dX1_gather_25 ?_
      refine lv_iload_n hx hb dX1_gather_28 rfl (lv_at hl 3 rfl) ?_
      replace hf := xsCk_use hf
      obtain ⟨h40, hf⟩ := hf
      refine xl_s0 (j := js) hjs hs_s C hP h40 dX1_gather_29 ?_
      refine lv_i2l hx hb dX1_gather_30 rfl ?_
      refine lv_aload_n hx hb dX1_gather_31 rfl (lv_at hl 1 rfl) ?_
      refine xg_X1_66 (j := js) hjs C hP dX1_gather_32 ?_
      refine lv_iload_n hx hb dX1_gather_35 rfl (lv_at hl 3 rfl) ?_
      replace hf := xsCk_use hf
      obtain ⟨h41, hf⟩ := hf
      refine xl_s1 (j := js) hjs hs_s C hP h41 dX1_gather_36 ?_
      refine lv_i2l hx hb dX1_gather_37 rfl ?_
      refine lv_lconst (v := (1 : Int64)) hx hb dX1_gather_38 (by decide) ?_
      replace hf := xsBd_use hf
      obtain ⟨o42, h43, hf⟩ := hf
      refine xs_calli hS (xs_runV (As := [.long (sLx y1.toNatClampNeg).toInt64, .long (sLy y1.toNatClampNeg).toInt64, .long (1 : Int64)]) C (mX1_placeOf l  h43) w_555 w_557 w_3 w_112 w_558 hd_X1_placeOf ⟨rfl, rfl, Nat.le_of_ble_eq_true rfl, Nat.le_of_ble_eq_true rfl, Nat.zero_le _, Nat.zero_le _⟩ hP hD hS lk_X1 rfl hl.1 rfl (Nat.le_of_ble_eq_true rfl) dX1_gather_39) (fun H locs hP hD hS => ?_)
      replace hf := xsCk_use hf
      obtain ⟨h44, hf⟩ := hf
      refine xs_evLeftEvent C hP hD hS h44 dX1_gather_42 (fun f45 ef45 H locs hP hD hS => ?_)
      replace hf := xsLt_use ef45 hf
      refine lv_aload_n hx hb dX1_gather_43 rfl (lv_at hl 0 rfl) ?_
      refine xg_X1_34 C hP dX1_gather_44 ?_
      refine lv_iload_n hx hb dX1_gather_47 rfl (lv_at hl 3 rfl) ?_
      refine lv_aload_n hx hb dX1_gather_48 rfl (lv_at hl 0 rfl) ?_
      refine lv_aload_n hx hb dX1_gather_49 rfl (lv_at hl 1 rfl) ?_
      refine xg_X1_69 (j := js) hjs C hP dX1_gather_50 ?_
      refine lv_iload_n hx hb dX1_gather_53 rfl (lv_at hl 3 rfl) ?_
      replace hf := xsCk_use hf
      obtain ⟨h46, hf⟩ := hf
      refine xl_s2 (j := js) hjs hs_s C hP h46 dX1_gather_54 ?_
      refine lv_i2l hx hb dX1_gather_55 rfl ?_
      refine lv_aload_n hx hb dX1_gather_56 rfl (lv_at hl 1 rfl) ?_
      refine xg_X1_72 (j := js) hjs C hP dX1_gather_57 ?_
      refine lv_iload_n hx hb dX1_gather_60 rfl (lv_at hl 3 rfl) ?_
      replace hf := xsCk_use hf
      obtain ⟨h47, hf⟩ := hf
      refine xl_s3 (j := js) hjs hs_s C hP h47 dX1_gather_61 ?_
      refine lv_i2l hx hb dX1_gather_62 rfl ?_
      refine lv_lconst (v := (1 : Int64)) hx hb dX1_gather_63 (by decide) ?_
      replace hf := xsBd_use hf
      obtain ⟨o48, h49, hf⟩ := hf
      refine xs_calli hS (xs_runV (As := [.long (sRx y1.toNatClampNeg).toInt64, .long (sRy y1.toNatClampNeg).toInt64, .long (1 : Int64)]) C (mX1_placeOf l  h49) w_555 w_557 w_3 w_112 w_558 hd_X1_placeOf ⟨rfl, rfl, Nat.le_of_ble_eq_true rfl, Nat.le_of_ble_eq_true rfl, Nat.zero_le _, Nat.zero_le _⟩ hP hD hS lk_X1 rfl hl.1 rfl (Nat.le_of_ble_eq_true rfl) dX1_gather_64) (fun H locs hP hD hS => ?_)
      replace hf := xsCk_use hf
      obtain ⟨h50, hf⟩ := hf
      refine xs_evRightEvent C hP hD hS h50 dX1_gather_67 (fun f51 ef51 H locs hP hD hS => ?_)
      replace hf := xsLt_use ef51 hf
      obtain ⟨x52, ex52⟩ : ∃ y : Int32, y = y1 + (1 : Int32) := ⟨_, rfl⟩
      replace hf := xsLt_use ex52 hf
      refine lv_iinc (v := x52) (lv' := [(3, .int x52), (0, .ref (xsA X 11)), (1, .ref (xsA X (27 + 6 * js))), (2, .ref (xsA X 8))]) hx hb dX1_gather_68 hl (k := 3) rfl (by rw [ex52]; rfl) (by decide) rfl (fun ls hl => ?_)
      refine lv_goto (tgt := 10) hx hb dX1_gather_71 (by decide) ?_
      exact ih4 _ (Option.some.inj hf).symm hk4 H locs ls hP hD hS (lv_sub hl [1, 2, 3, 0] rfl)
  exact L4 ((0 : Int32), evLeftEvent, evRightEvent) r4 hk40 hf H locs ls hP hD hS (lv_sub hl [1, 2, 3, 0] rfl)
set_option maxRecDepth 100000 in
set_option maxHeartbeats 8000000 in
theorem mX1_endsIn (l : Launch) {X : xsX} {kIsKept kIsStale hiLatest hiSize scLength scFault scAt scNumber piSegmentsNow enKind enFromX enFromY enToX enToY tiMeetingPairs tiAlongPairs tiSize evSize evCrossings evSegmentsNow grEdges grQueued huSize huBestX huBestY : Int32} {scBytes scTold tiTouching tiLyingAlong evBundle evCrossingOf evEventOf evLeftEvent evRightEvent grDegree grFar grQueue huX huY : Nat → Int32} {enX enY enLower : Int64} {evX evY evLower : Nat → Int64} {S : Nat → xsV} {Rw : va_W} {a1 : Int32} {out : Int32} (hf : fX1_endsIn evLeftEvent evSegmentsNow a1 = some out) : Met l yX1_endsIn (xsWs yX1_endsIn cX1_endsIn 5 (some .int)) { frames := 0, cells := 0, slots := 0, locals := 0 } (xsP X (wK X kIsKept kIsStale hiLatest hiSize scBytes scTold scLength scFault scAt scNumber piSegmentsNow enKind enX enY enLower enFromX enFromY enToX enToY tiTouching tiLyingAlong tiMeetingPairs tiAlongPairs tiSize evX evY evLower evBundle evCrossingOf evEventOf evLeftEvent evRightEvent evSize evCrossings evSegmentsNow grDegree grEdges grFar grQueue grQueued huX huY huSize huBestX huBestY S Rw) [.ref (xsA X 11), .ref (xsA X 18), .int a1]) (xsQi X out (wK X kIsKept kIsStale hiLatest hiSize scBytes scTold scLength scFault scAt scNumber piSegmentsNow enKind enX enY enLower enFromX enFromY enToX enToY tiTouching tiLyingAlong tiMeetingPairs tiAlongPairs tiSize evX evY evLower evBundle evCrossingOf evEventOf evLeftEvent evRightEvent evSize evCrossings evSegmentsNow grDegree grEdges grFar grQueue grQueued huX huY huSize huBestX huBestY S Rw)) 0 0 (xsF X) := by
  refine xs_meth RX1 (by decide) rfl (Nat.le_of_ble_eq_true rfl) ?_
  intro p e s m below meth c ls H locs C hP hD hS hr hlk hl
  have hx := C.1
  have hb := C.2.1
  have hl : lv_has ls 5 [(0, .ref (xsA X 11)), (1, .ref (xsA X 18)), (2, .int a1)] := hl
  obtain ⟨Qq, hQq⟩ : ∃ Qq, Qq = xsQi X out (wK X kIsKept kIsStale hiLatest hiSize scBytes scTold scLength scFault scAt scNumber piSegmentsNow enKind enX enY enLower enFromX enFromY enToX enToY tiTouching tiLyingAlong tiMeetingPairs tiAlongPairs tiSize evX evY evLower evBundle evCrossingOf evEventOf evLeftEvent evRightEvent evSize evCrossings evSegmentsNow grDegree grEdges grFar grQueue grQueued huX huY huSize huBestX huBestY S Rw) := ⟨_, rfl⟩
  rw [← hQq]
  unfold fX1_endsIn at hf
  refine lv_iconst (v := (0 : Int32)) hx hb dX1_endsIn_0 (by decide) ?_
  refine lv_istore_n (lv' := [(3, .int (0 : Int32)), (0, .ref (xsA X 11)), (1, .ref (xsA X 18)), (2, .int a1)]) hx hb dX1_endsIn_1 rfl hl (by decide) rfl (fun ls hl => ?_)
  refine lv_iconst (v := (0 : Int32)) hx hb dX1_endsIn_2 (by decide) ?_
  refine lv_istore (lv' := [(4, .int (0 : Int32)), (3, .int (0 : Int32)), (0, .ref (xsA X 11)), (1, .ref (xsA X 18)), (2, .int a1)]) hx hb dX1_endsIn_3 hl (by decide) rfl (fun ls hl => ?_)
  have K3 : ∀ (y4 : Int32) (hf : fX1_endsIn_J35 y4 = some out) (H : Heap) (locs : List Loc) (ls : Array Slot), va_P (xsD X) vwCl (wK X kIsKept kIsStale hiLatest hiSize scBytes scTold scLength scFault scAt scNumber piSegmentsNow enKind enX enY enLower enFromX enFromY enToX enToY tiTouching tiLyingAlong tiMeetingPairs tiAlongPairs tiSize evX evY evLower evBundle evCrossingOf evEventOf evLeftEvent evRightEvent evSize evCrossings evSegmentsNow grDegree grEdges grFar grQueue grQueued huX huY huSize huBestX huBestY S Rw) H → va_D (xsF X) (wK X kIsKept kIsStale hiLatest hiSize scBytes scTold scLength scFault scAt scNumber piSegmentsNow enKind enX enY enLower enFromX enFromY enToX enToY tiTouching tiLyingAlong tiMeetingPairs tiAlongPairs tiSize evX evY evLower evBundle evCrossingOf evEventOf evLeftEvent evRightEvent evSize evCrossings evSegmentsNow grDegree grEdges grFar grQueue grQueued huX huY huSize huBestX huBestY S Rw) → va_S (xsF X) s.heap H locs → lv_has ls 5 [(3, .int y4)] → W p l e { frames := 0, cells := 0, slots := 0, locals := 0 } s m ([.ref (xsA X 11), .ref (xsA X 18), .int a1] : List Value).toArray below meth c H locs 0 0 (MQ below Qq ([.ref (xsA X 11), .ref (xsA X 18), .int a1] : List Value).toArray s 0 0 (xsF X)) (F0 m 35 ls []) := by
    intro y4 hf H locs ls hP hD hS hl
    unfold fX1_endsIn_J35 at hf
    refine lv_iload_n hx hb dX1_endsIn_35 rfl (lv_at hl 0 rfl) ?_
    have ho := Option.some.inj hf
    subst ho
    rw [hQq]
    exact xs_iret C hr hlk hP hD hS dX1_endsIn_36
  replace hf := xsBd_use hf
  obtain ⟨r3, hk30, hf⟩ := hf
  have L3 : ∀ (sg : Int32 × Int32) (rg : Int32), xsWh (fun s3 => fX1_endsIn_L5 evLeftEvent evSegmentsNow a1 s3.1 s3.2) sg = some rg → (fX1_endsIn_J35 rg = some out → ∀ (H : Heap) (locs : List Loc) (ls : Array Slot), va_P (xsD X) vwCl (wK X kIsKept kIsStale hiLatest hiSize scBytes scTold scLength scFault scAt scNumber piSegmentsNow enKind enX enY enLower enFromX enFromY enToX enToY tiTouching tiLyingAlong tiMeetingPairs tiAlongPairs tiSize evX evY evLower evBundle evCrossingOf evEventOf evLeftEvent evRightEvent evSize evCrossings evSegmentsNow grDegree grEdges grFar grQueue grQueued huX huY huSize huBestX huBestY S Rw) H → va_D (xsF X) (wK X kIsKept kIsStale hiLatest hiSize scBytes scTold scLength scFault scAt scNumber piSegmentsNow enKind enX enY enLower enFromX enFromY enToX enToY tiTouching tiLyingAlong tiMeetingPairs tiAlongPairs tiSize evX evY evLower evBundle evCrossingOf evEventOf evLeftEvent evRightEvent evSize evCrossings evSegmentsNow grDegree grEdges grFar grQueue grQueued huX huY huSize huBestX huBestY S Rw) → va_S (xsF X) s.heap H locs → lv_has ls 5 [(0, .ref (xsA X 11)), (1, .ref (xsA X 18)), (2, .int a1), (3, .int sg.1), (4, .int sg.2)] → W p l e { frames := 0, cells := 0, slots := 0, locals := 0 } s m ([.ref (xsA X 11), .ref (xsA X 18), .int a1] : List Value).toArray below meth c H locs 0 0 (MQ below Qq ([.ref (xsA X 11), .ref (xsA X 18), .int a1] : List Value).toArray s 0 0 (xsF X)) (F0 m 5 ls [])) := by
    refine xsWh_ind ?_
    intro sg r3 u3 hf ih3 hx3 hk3 H locs ls hP hD hS hl
    obtain ⟨y1, y2⟩ := sg
    replace hf : fX1_endsIn_L5 evLeftEvent evSegmentsNow a1 y1 y2 = some u3 := hf
    replace hl : lv_has ls 5 [(0, .ref (xsA X 11)), (1, .ref (xsA X 18)), (2, .int a1), (3, .int y1), (4, .int y2)] := hl
    replace hP : va_P (xsD X) vwCl (wK X kIsKept kIsStale hiLatest hiSize scBytes scTold scLength scFault scAt scNumber piSegmentsNow enKind enX enY enLower enFromX enFromY enToX enToY tiTouching tiLyingAlong tiMeetingPairs tiAlongPairs tiSize evX evY evLower evBundle evCrossingOf evEventOf evLeftEvent evRightEvent evSize evCrossings evSegmentsNow grDegree grEdges grFar grQueue grQueued huX huY huSize huBestX huBestY S Rw) H := hP
    replace hD : va_D (xsF X) (wK X kIsKept kIsStale hiLatest hiSize scBytes scTold scLength scFault scAt scNumber piSegmentsNow enKind enX enY enLower enFromX enFromY enToX enToY tiTouching tiLyingAlong tiMeetingPairs tiAlongPairs tiSize evX evY evLower evBundle evCrossingOf evEventOf evLeftEvent evRightEvent evSize evCrossings evSegmentsNow grDegree grEdges grFar grQueue grQueued huX huY huSize huBestX huBestY S Rw) := hD
    unfold fX1_endsIn_L5 at hf
    refine lv_iload hx hb dX1_endsIn_5 (lv_at hl 4 rfl) ?_
    refine lv_aload_n hx hb dX1_endsIn_7 rfl (lv_at hl 0 rfl) ?_
    refine xg_X1_44 C hP dX1_endsIn_8 ?_
    refine lv_icmp_ge (tgt := 35) hx hb dX1_endsIn_11 (by decide) (fun c13 => ?_) (fun c13 => ?_)
    · replace hf := xsBr_t c13 hf
      have ez := hx3 _ (Option.some.inj hf).symm
      subst ez
      exact K3 y1 hk3 H locs ls hP hD hS (lv_sub hl [3] rfl)
    · replace hf := xsBr_f c13 hf
      refine lv_aload_n hx hb dX1_endsIn_14 rfl (lv_at hl 1 rfl) ?_
      refine lv_iload hx hb dX1_endsIn_15 (lv_at hl 4 rfl) ?_
      replace hf := xsCk_use hf
      obtain ⟨h5, hf⟩ := hf
      refine xl_evLeftEvent C hP h5 dX1_endsIn_17 ?_
      refine lv_iload_n hx hb dX1_endsIn_18 rfl (lv_at hl 2 rfl) ?_
      have K10 : ∀ (y6 : Int32) (hf : fX1_endsIn_J29 y2 y6 = some u3) (H : Heap) (locs : List Loc) (ls : Array Slot), va_P (xsD X) vwCl (wK X kIsKept kIsStale hiLatest hiSize scBytes scTold scLength scFault scAt scNumber piSegmentsNow enKind enX enY enLower enFromX enFromY enToX enToY tiTouching tiLyingAlong tiMeetingPairs tiAlongPairs tiSize evX evY evLower evBundle evCrossingOf evEventOf evLeftEvent evRightEvent evSize evCrossings evSegmentsNow grDegree grEdges grFar grQueue grQueued huX huY huSize huBestX huBestY S Rw) H → va_D (xsF X) (wK X kIsKept kIsStale hiLatest hiSize scBytes scTold scLength scFault scAt scNumber piSegmentsNow enKind enX enY enLower enFromX enFromY enToX enToY tiTouching tiLyingAlong tiMeetingPairs tiAlongPairs tiSize evX evY evLower evBundle evCrossingOf evEventOf evLeftEvent evRightEvent evSize evCrossings evSegmentsNow grDegree grEdges grFar grQueue grQueued huX huY huSize huBestX huBestY S Rw) → va_S (xsF X) s.heap H locs → lv_has ls 5 [(0, .ref (xsA X 11)), (1, .ref (xsA X 18)), (2, .int a1), (3, .int y6), (4, .int y2)] → W p l e { frames := 0, cells := 0, slots := 0, locals := 0 } s m ([.ref (xsA X 11), .ref (xsA X 18), .int a1] : List Value).toArray below meth c H locs 0 0 (MQ below Qq ([.ref (xsA X 11), .ref (xsA X 18), .int a1] : List Value).toArray s 0 0 (xsF X)) (F0 m 29 ls []) := by
        intro y6 hf H locs ls hP hD hS hl
        unfold fX1_endsIn_J29 at hf
        obtain ⟨x7, ex7⟩ : ∃ y : Int32, y = y2 + (1 : Int32) := ⟨_, rfl⟩
        replace hf := xsLt_use ex7 hf
        refine lv_iinc (v := x7) (lv' := [(4, .int x7), (0, .ref (xsA X 11)), (1, .ref (xsA X 18)), (2, .int a1), (3, .int y6)]) hx hb dX1_endsIn_29 hl (k := 4) rfl (by rw [ex7]; rfl) (by decide) rfl (fun ls hl => ?_)
        refine lv_goto (tgt := 5) hx hb dX1_endsIn_32 (by decide) ?_
        exact ih3 _ (Option.some.inj hf).symm hk3 H locs ls hP hD hS (lv_sub hl [1, 2, 3, 4, 0] rfl)
      replace hf := xsBd_use hf
      obtain ⟨v8, hf, hk9⟩ := hf
      refine lv_icmp_ne (tgt := 29) hx hb dX1_endsIn_19 (by decide) (fun c12 => ?_) (fun c12 => ?_)
      · replace hf := xsBr_f c12 hf
        have ev := Option.some.inj hf
        subst ev
        exact K10 y1 hk9 H locs ls hP hD hS (lv_sub hl [0, 1, 2, 3, 4] rfl)
      · replace hf := xsBr_t c12 hf
        refine lv_iload_n hx hb dX1_endsIn_22 rfl (lv_at hl 3 rfl) ?_
        refine lv_iconst (v := (1 : Int32)) hx hb dX1_endsIn_23 (by decide) ?_
        refine lv_iload hx hb dX1_endsIn_24 (lv_at hl 4 rfl) ?_
        refine lv_ishl hx hb dX1_endsIn_26 ?_
        refine lv_ior hx hb dX1_endsIn_27 ?_
        refine lv_topi (fun x11 ex11 => ?_)
        replace hf := xsLt_use ex11 hf
        refine lv_istore_n (lv' := [(3, .int x11), (0, .ref (xsA X 11)), (1, .ref (xsA X 18)), (2, .int a1), (4, .int y2)]) hx hb dX1_endsIn_28 rfl hl (by decide) rfl (fun ls hl => ?_)
        have ev := Option.some.inj hf
        subst ev
        exact K10 x11 hk9 H locs ls hP hD hS (lv_sub hl [1, 2, 3, 0, 4] rfl)
  exact L3 ((0 : Int32), (0 : Int32)) r3 hk30 hf H locs ls hP hD hS (lv_sub hl [2, 3, 4, 1, 0] rfl)
set_option maxRecDepth 100000 in
set_option maxHeartbeats 8000000 in
theorem mX1_leftsIn (l : Launch) {X : xsX} {kIsKept kIsStale hiLatest hiSize scLength scFault scAt scNumber piSegmentsNow enKind enFromX enFromY enToX enToY tiMeetingPairs tiAlongPairs tiSize evSize evCrossings evSegmentsNow grEdges grQueued huSize huBestX huBestY : Int32} {scBytes scTold tiTouching tiLyingAlong evBundle evCrossingOf evEventOf evLeftEvent evRightEvent grDegree grFar grQueue huX huY : Nat → Int32} {enX enY enLower : Int64} {evX evY evLower : Nat → Int64} {S : Nat → xsV} {Rw : va_W} {a0 : Int32} {out : Int32} (hf : fX1_leftsIn evLeftEvent evSegmentsNow a0 = some out) : Met l yX1_leftsIn (xsWs yX1_leftsIn cX1_leftsIn 2 (some .int)) { frames := 1, cells := 0, slots := 0, locals := 24 } (xsP X (wK X kIsKept kIsStale hiLatest hiSize scBytes scTold scLength scFault scAt scNumber piSegmentsNow enKind enX enY enLower enFromX enFromY enToX enToY tiTouching tiLyingAlong tiMeetingPairs tiAlongPairs tiSize evX evY evLower evBundle evCrossingOf evEventOf evLeftEvent evRightEvent evSize evCrossings evSegmentsNow grDegree grEdges grFar grQueue grQueued huX huY huSize huBestX huBestY S Rw) [.ref (xsA X 11), .int a0]) (xsQi X out (wK X kIsKept kIsStale hiLatest hiSize scBytes scTold scLength scFault scAt scNumber piSegmentsNow enKind enX enY enLower enFromX enFromY enToX enToY tiTouching tiLyingAlong tiMeetingPairs tiAlongPairs tiSize evX evY evLower evBundle evCrossingOf evEventOf evLeftEvent evRightEvent evSize evCrossings evSegmentsNow grDegree grEdges grFar grQueue grQueued huX huY huSize huBestX huBestY S Rw)) 0 0 (xsF X) := by
  refine xs_meth RX1 (by decide) rfl (Nat.le_of_ble_eq_true rfl) ?_
  intro p e s m below meth c ls H locs C hP hD hS hr hlk hl
  have hx := C.1
  have hb := C.2.1
  have hl : lv_has ls 2 [(0, .ref (xsA X 11)), (1, .int a0)] := hl
  obtain ⟨Qq, hQq⟩ : ∃ Qq, Qq = xsQi X out (wK X kIsKept kIsStale hiLatest hiSize scBytes scTold scLength scFault scAt scNumber piSegmentsNow enKind enX enY enLower enFromX enFromY enToX enToY tiTouching tiLyingAlong tiMeetingPairs tiAlongPairs tiSize evX evY evLower evBundle evCrossingOf evEventOf evLeftEvent evRightEvent evSize evCrossings evSegmentsNow grDegree grEdges grFar grQueue grQueued huX huY huSize huBestX huBestY S Rw) := ⟨_, rfl⟩
  rw [← hQq]
  unfold fX1_leftsIn at hf
  refine lv_aload_n hx hb dX1_leftsIn_0 rfl (lv_at hl 0 rfl) ?_
  refine lv_aload_n hx hb dX1_leftsIn_1 rfl (lv_at hl 0 rfl) ?_
  refine xg_X1_31 C hP dX1_leftsIn_2 ?_
  refine lv_iload_n hx hb dX1_leftsIn_5 rfl (lv_at hl 1 rfl) ?_
  replace hf := xsBd_use hf
  obtain ⟨o1, h2, hf⟩ := hf
  refine xs_calli hS (xs_runV (As := [.ref (xsA X 18), .int a0]) C (mX1_endsIn l  h2) w_742 w_744 w_12 w_112 w_745 hd_X1_endsIn ⟨rfl, rfl, Nat.le_of_ble_eq_true rfl, Nat.le_of_ble_eq_true rfl, Nat.zero_le _, Nat.zero_le _⟩ hP hD hS lk_X1 rfl hl.1 rfl (Nat.le_of_ble_eq_true rfl) dX1_leftsIn_6) (fun H locs hP hD hS => ?_)
  have ho := Option.some.inj hf
  subst ho
  rw [hQq]
  exact xs_iret C hr hlk hP hD hS dX1_leftsIn_9
set_option maxRecDepth 100000 in
set_option maxHeartbeats 8000000 in
theorem mX1_endsIn_v1 (l : Launch) {X : xsX} {kIsKept kIsStale hiLatest hiSize scLength scFault scAt scNumber piSegmentsNow enKind enFromX enFromY enToX enToY tiMeetingPairs tiAlongPairs tiSize evSize evCrossings evSegmentsNow grEdges grQueued huSize huBestX huBestY : Int32} {scBytes scTold tiTouching tiLyingAlong evBundle evCrossingOf evEventOf evLeftEvent evRightEvent grDegree grFar grQueue huX huY : Nat → Int32} {enX enY enLower : Int64} {evX evY evLower : Nat → Int64} {S : Nat → xsV} {Rw : va_W} {a1 : Int32} {out : Int32} (hf : fX1_endsIn_v1 evRightEvent evSegmentsNow a1 = some out) : Met l yX1_endsIn (xsWs yX1_endsIn cX1_endsIn 5 (some .int)) { frames := 0, cells := 0, slots := 0, locals := 0 } (xsP X (wK X kIsKept kIsStale hiLatest hiSize scBytes scTold scLength scFault scAt scNumber piSegmentsNow enKind enX enY enLower enFromX enFromY enToX enToY tiTouching tiLyingAlong tiMeetingPairs tiAlongPairs tiSize evX evY evLower evBundle evCrossingOf evEventOf evLeftEvent evRightEvent evSize evCrossings evSegmentsNow grDegree grEdges grFar grQueue grQueued huX huY huSize huBestX huBestY S Rw) [.ref (xsA X 11), .ref (xsA X 19), .int a1]) (xsQi X out (wK X kIsKept kIsStale hiLatest hiSize scBytes scTold scLength scFault scAt scNumber piSegmentsNow enKind enX enY enLower enFromX enFromY enToX enToY tiTouching tiLyingAlong tiMeetingPairs tiAlongPairs tiSize evX evY evLower evBundle evCrossingOf evEventOf evLeftEvent evRightEvent evSize evCrossings evSegmentsNow grDegree grEdges grFar grQueue grQueued huX huY huSize huBestX huBestY S Rw)) 0 0 (xsF X) := by
  refine xs_meth RX1 (by decide) rfl (Nat.le_of_ble_eq_true rfl) ?_
  intro p e s m below meth c ls H locs C hP hD hS hr hlk hl
  have hx := C.1
  have hb := C.2.1
  have hl : lv_has ls 5 [(0, .ref (xsA X 11)), (1, .ref (xsA X 19)), (2, .int a1)] := hl
  obtain ⟨Qq, hQq⟩ : ∃ Qq, Qq = xsQi X out (wK X kIsKept kIsStale hiLatest hiSize scBytes scTold scLength scFault scAt scNumber piSegmentsNow enKind enX enY enLower enFromX enFromY enToX enToY tiTouching tiLyingAlong tiMeetingPairs tiAlongPairs tiSize evX evY evLower evBundle evCrossingOf evEventOf evLeftEvent evRightEvent evSize evCrossings evSegmentsNow grDegree grEdges grFar grQueue grQueued huX huY huSize huBestX huBestY S Rw) := ⟨_, rfl⟩
  rw [← hQq]
  unfold fX1_endsIn_v1 at hf
  refine lv_iconst (v := (0 : Int32)) hx hb dX1_endsIn_0 (by decide) ?_
  refine lv_istore_n (lv' := [(3, .int (0 : Int32)), (0, .ref (xsA X 11)), (1, .ref (xsA X 19)), (2, .int a1)]) hx hb dX1_endsIn_1 rfl hl (by decide) rfl (fun ls hl => ?_)
  refine lv_iconst (v := (0 : Int32)) hx hb dX1_endsIn_2 (by decide) ?_
  refine lv_istore (lv' := [(4, .int (0 : Int32)), (3, .int (0 : Int32)), (0, .ref (xsA X 11)), (1, .ref (xsA X 19)), (2, .int a1)]) hx hb dX1_endsIn_3 hl (by decide) rfl (fun ls hl => ?_)
  have K3 : ∀ (y4 : Int32) (hf : fX1_endsIn_v1_J35 y4 = some out) (H : Heap) (locs : List Loc) (ls : Array Slot), va_P (xsD X) vwCl (wK X kIsKept kIsStale hiLatest hiSize scBytes scTold scLength scFault scAt scNumber piSegmentsNow enKind enX enY enLower enFromX enFromY enToX enToY tiTouching tiLyingAlong tiMeetingPairs tiAlongPairs tiSize evX evY evLower evBundle evCrossingOf evEventOf evLeftEvent evRightEvent evSize evCrossings evSegmentsNow grDegree grEdges grFar grQueue grQueued huX huY huSize huBestX huBestY S Rw) H → va_D (xsF X) (wK X kIsKept kIsStale hiLatest hiSize scBytes scTold scLength scFault scAt scNumber piSegmentsNow enKind enX enY enLower enFromX enFromY enToX enToY tiTouching tiLyingAlong tiMeetingPairs tiAlongPairs tiSize evX evY evLower evBundle evCrossingOf evEventOf evLeftEvent evRightEvent evSize evCrossings evSegmentsNow grDegree grEdges grFar grQueue grQueued huX huY huSize huBestX huBestY S Rw) → va_S (xsF X) s.heap H locs → lv_has ls 5 [(3, .int y4)] → W p l e { frames := 0, cells := 0, slots := 0, locals := 0 } s m ([.ref (xsA X 11), .ref (xsA X 19), .int a1] : List Value).toArray below meth c H locs 0 0 (MQ below Qq ([.ref (xsA X 11), .ref (xsA X 19), .int a1] : List Value).toArray s 0 0 (xsF X)) (F0 m 35 ls []) := by
    intro y4 hf H locs ls hP hD hS hl
    unfold fX1_endsIn_v1_J35 at hf
    refine lv_iload_n hx hb dX1_endsIn_35 rfl (lv_at hl 0 rfl) ?_
    have ho := Option.some.inj hf
    subst ho
    rw [hQq]
    exact xs_iret C hr hlk hP hD hS dX1_endsIn_36
  replace hf := xsBd_use hf
  obtain ⟨r3, hk30, hf⟩ := hf
  have L3 : ∀ (sg : Int32 × Int32) (rg : Int32), xsWh (fun s3 => fX1_endsIn_v1_L5 evRightEvent evSegmentsNow a1 s3.1 s3.2) sg = some rg → (fX1_endsIn_v1_J35 rg = some out → ∀ (H : Heap) (locs : List Loc) (ls : Array Slot), va_P (xsD X) vwCl (wK X kIsKept kIsStale hiLatest hiSize scBytes scTold scLength scFault scAt scNumber piSegmentsNow enKind enX enY enLower enFromX enFromY enToX enToY tiTouching tiLyingAlong tiMeetingPairs tiAlongPairs tiSize evX evY evLower evBundle evCrossingOf evEventOf evLeftEvent evRightEvent evSize evCrossings evSegmentsNow grDegree grEdges grFar grQueue grQueued huX huY huSize huBestX huBestY S Rw) H → va_D (xsF X) (wK X kIsKept kIsStale hiLatest hiSize scBytes scTold scLength scFault scAt scNumber piSegmentsNow enKind enX enY enLower enFromX enFromY enToX enToY tiTouching tiLyingAlong tiMeetingPairs tiAlongPairs tiSize evX evY evLower evBundle evCrossingOf evEventOf evLeftEvent evRightEvent evSize evCrossings evSegmentsNow grDegree grEdges grFar grQueue grQueued huX huY huSize huBestX huBestY S Rw) → va_S (xsF X) s.heap H locs → lv_has ls 5 [(0, .ref (xsA X 11)), (1, .ref (xsA X 19)), (2, .int a1), (3, .int sg.1), (4, .int sg.2)] → W p l e { frames := 0, cells := 0, slots := 0, locals := 0 } s m ([.ref (xsA X 11), .ref (xsA X 19), .int a1] : List Value).toArray below meth c H locs 0 0 (MQ below Qq ([.ref (xsA X 11), .ref (xsA X 19), .int a1] : List Value).toArray s 0 0 (xsF X)) (F0 m 5 ls [])) := by
    refine xsWh_ind ?_
    intro sg r3 u3 hf ih3 hx3 hk3 H locs ls hP hD hS hl
    obtain ⟨y1, y2⟩ := sg
    replace hf : fX1_endsIn_v1_L5 evRightEvent evSegmentsNow a1 y1 y2 = some u3 := hf
    replace hl : lv_has ls 5 [(0, .ref (xsA X 11)), (1, .ref (xsA X 19)), (2, .int a1), (3, .int y1), (4, .int y2)] := hl
    replace hP : va_P (xsD X) vwCl (wK X kIsKept kIsStale hiLatest hiSize scBytes scTold scLength scFault scAt scNumber piSegmentsNow enKind enX enY enLower enFromX enFromY enToX enToY tiTouching tiLyingAlong tiMeetingPairs tiAlongPairs tiSize evX evY evLower evBundle evCrossingOf evEventOf evLeftEvent evRightEvent evSize evCrossings evSegmentsNow grDegree grEdges grFar grQueue grQueued huX huY huSize huBestX huBestY S Rw) H := hP
    replace hD : va_D (xsF X) (wK X kIsKept kIsStale hiLatest hiSize scBytes scTold scLength scFault scAt scNumber piSegmentsNow enKind enX enY enLower enFromX enFromY enToX enToY tiTouching tiLyingAlong tiMeetingPairs tiAlongPairs tiSize evX evY evLower evBundle evCrossingOf evEventOf evLeftEvent evRightEvent evSize evCrossings evSegmentsNow grDegree grEdges grFar grQueue grQueued huX huY huSize huBestX huBestY S Rw) := hD
    unfold fX1_endsIn_v1_L5 at hf
    refine lv_iload hx hb dX1_endsIn_5 (lv_at hl 4 rfl) ?_
    refine lv_aload_n hx hb dX1_endsIn_7 rfl (lv_at hl 0 rfl) ?_
    refine xg_X1_44 C hP dX1_endsIn_8 ?_
    refine lv_icmp_ge (tgt := 35) hx hb dX1_endsIn_11 (by decide) (fun c13 => ?_) (fun c13 => ?_)
    · replace hf := xsBr_t c13 hf
      have ez := hx3 _ (Option.some.inj hf).symm
      subst ez
      exact K3 y1 hk3 H locs ls hP hD hS (lv_sub hl [3] rfl)
    · replace hf := xsBr_f c13 hf
      refine lv_aload_n hx hb dX1_endsIn_14 rfl (lv_at hl 1 rfl) ?_
      refine lv_iload hx hb dX1_endsIn_15 (lv_at hl 4 rfl) ?_
      replace hf := xsCk_use hf
      obtain ⟨h5, hf⟩ := hf
      refine xl_evRightEvent C hP h5 dX1_endsIn_17 ?_
      refine lv_iload_n hx hb dX1_endsIn_18 rfl (lv_at hl 2 rfl) ?_
      have K10 : ∀ (y6 : Int32) (hf : fX1_endsIn_v1_J29 y2 y6 = some u3) (H : Heap) (locs : List Loc) (ls : Array Slot), va_P (xsD X) vwCl (wK X kIsKept kIsStale hiLatest hiSize scBytes scTold scLength scFault scAt scNumber piSegmentsNow enKind enX enY enLower enFromX enFromY enToX enToY tiTouching tiLyingAlong tiMeetingPairs tiAlongPairs tiSize evX evY evLower evBundle evCrossingOf evEventOf evLeftEvent evRightEvent evSize evCrossings evSegmentsNow grDegree grEdges grFar grQueue grQueued huX huY huSize huBestX huBestY S Rw) H → va_D (xsF X) (wK X kIsKept kIsStale hiLatest hiSize scBytes scTold scLength scFault scAt scNumber piSegmentsNow enKind enX enY enLower enFromX enFromY enToX enToY tiTouching tiLyingAlong tiMeetingPairs tiAlongPairs tiSize evX evY evLower evBundle evCrossingOf evEventOf evLeftEvent evRightEvent evSize evCrossings evSegmentsNow grDegree grEdges grFar grQueue grQueued huX huY huSize huBestX huBestY S Rw) → va_S (xsF X) s.heap H locs → lv_has ls 5 [(0, .ref (xsA X 11)), (1, .ref (xsA X 19)), (2, .int a1), (3, .int y6), (4, .int y2)] → W p l e { frames := 0, cells := 0, slots := 0, locals := 0 } s m ([.ref (xsA X 11), .ref (xsA X 19), .int a1] : List Value).toArray below meth c H locs 0 0 (MQ below Qq ([.ref (xsA X 11), .ref (xsA X 19), .int a1] : List Value).toArray s 0 0 (xsF X)) (F0 m 29 ls []) := by
        intro y6 hf H locs ls hP hD hS hl
        unfold fX1_endsIn_v1_J29 at hf
        obtain ⟨x7, ex7⟩ : ∃ y : Int32, y = y2 + (1 : Int32) := ⟨_, rfl⟩
        replace hf := xsLt_use ex7 hf
        refine lv_iinc (v := x7) (lv' := [(4, .int x7), (0, .ref (xsA X 11)), (1, .ref (xsA X 19)), (2, .int a1), (3, .int y6)]) hx hb dX1_endsIn_29 hl (k := 4) rfl (by rw [ex7]; rfl) (by decide) rfl (fun ls hl => ?_)
        refine lv_goto (tgt := 5) hx hb dX1_endsIn_32 (by decide) ?_
        exact ih3 _ (Option.some.inj hf).symm hk3 H locs ls hP hD hS (lv_sub hl [1, 2, 3, 4, 0] rfl)
      replace hf := xsBd_use hf
      obtain ⟨v8, hf, hk9⟩ := hf
      refine lv_icmp_ne (tgt := 29) hx hb dX1_endsIn_19 (by decide) (fun c12 => ?_) (fun c12 => ?_)
      · replace hf := xsBr_f c12 hf
        have ev := Option.some.inj hf
        subst ev
        exact K10 y1 hk9 H locs ls hP hD hS (lv_sub hl [0, 1, 2, 3, 4] rfl)
      · replace hf := xsBr_t c12 hf
        refine lv_iload_n hx hb dX1_endsIn_22 rfl (lv_at hl 3 rfl) ?_
        refine lv_iconst (v := (1 : Int32)) hx hb dX1_endsIn_23 (by decide) ?_
        refine lv_iload hx hb dX1_endsIn_24 (lv_at hl 4 rfl) ?_
        refine lv_ishl hx hb dX1_endsIn_26 ?_
        refine lv_ior hx hb dX1_endsIn_27 ?_
        refine lv_topi (fun x11 ex11 => ?_)
        replace hf := xsLt_use ex11 hf
        refine lv_istore_n (lv' := [(3, .int x11), (0, .ref (xsA X 11)), (1, .ref (xsA X 19)), (2, .int a1), (4, .int y2)]) hx hb dX1_endsIn_28 rfl hl (by decide) rfl (fun ls hl => ?_)
        have ev := Option.some.inj hf
        subst ev
        exact K10 x11 hk9 H locs ls hP hD hS (lv_sub hl [1, 2, 3, 0, 4] rfl)
  exact L3 ((0 : Int32), (0 : Int32)) r3 hk30 hf H locs ls hP hD hS (lv_sub hl [2, 3, 4, 1, 0] rfl)
set_option maxRecDepth 100000 in
set_option maxHeartbeats 8000000 in
theorem mX1_rightsIn (l : Launch) {X : xsX} {kIsKept kIsStale hiLatest hiSize scLength scFault scAt scNumber piSegmentsNow enKind enFromX enFromY enToX enToY tiMeetingPairs tiAlongPairs tiSize evSize evCrossings evSegmentsNow grEdges grQueued huSize huBestX huBestY : Int32} {scBytes scTold tiTouching tiLyingAlong evBundle evCrossingOf evEventOf evLeftEvent evRightEvent grDegree grFar grQueue huX huY : Nat → Int32} {enX enY enLower : Int64} {evX evY evLower : Nat → Int64} {S : Nat → xsV} {Rw : va_W} {a0 : Int32} {out : Int32} (hf : fX1_rightsIn evRightEvent evSegmentsNow a0 = some out) : Met l yX1_rightsIn (xsWs yX1_rightsIn cX1_rightsIn 2 (some .int)) { frames := 1, cells := 0, slots := 0, locals := 24 } (xsP X (wK X kIsKept kIsStale hiLatest hiSize scBytes scTold scLength scFault scAt scNumber piSegmentsNow enKind enX enY enLower enFromX enFromY enToX enToY tiTouching tiLyingAlong tiMeetingPairs tiAlongPairs tiSize evX evY evLower evBundle evCrossingOf evEventOf evLeftEvent evRightEvent evSize evCrossings evSegmentsNow grDegree grEdges grFar grQueue grQueued huX huY huSize huBestX huBestY S Rw) [.ref (xsA X 11), .int a0]) (xsQi X out (wK X kIsKept kIsStale hiLatest hiSize scBytes scTold scLength scFault scAt scNumber piSegmentsNow enKind enX enY enLower enFromX enFromY enToX enToY tiTouching tiLyingAlong tiMeetingPairs tiAlongPairs tiSize evX evY evLower evBundle evCrossingOf evEventOf evLeftEvent evRightEvent evSize evCrossings evSegmentsNow grDegree grEdges grFar grQueue grQueued huX huY huSize huBestX huBestY S Rw)) 0 0 (xsF X) := by
  refine xs_meth RX1 (by decide) rfl (Nat.le_of_ble_eq_true rfl) ?_
  intro p e s m below meth c ls H locs C hP hD hS hr hlk hl
  have hx := C.1
  have hb := C.2.1
  have hl : lv_has ls 2 [(0, .ref (xsA X 11)), (1, .int a0)] := hl
  obtain ⟨Qq, hQq⟩ : ∃ Qq, Qq = xsQi X out (wK X kIsKept kIsStale hiLatest hiSize scBytes scTold scLength scFault scAt scNumber piSegmentsNow enKind enX enY enLower enFromX enFromY enToX enToY tiTouching tiLyingAlong tiMeetingPairs tiAlongPairs tiSize evX evY evLower evBundle evCrossingOf evEventOf evLeftEvent evRightEvent evSize evCrossings evSegmentsNow grDegree grEdges grFar grQueue grQueued huX huY huSize huBestX huBestY S Rw) := ⟨_, rfl⟩
  rw [← hQq]
  unfold fX1_rightsIn at hf
  refine lv_aload_n hx hb dX1_rightsIn_0 rfl (lv_at hl 0 rfl) ?_
  refine lv_aload_n hx hb dX1_rightsIn_1 rfl (lv_at hl 0 rfl) ?_
  refine xg_X1_34 C hP dX1_rightsIn_2 ?_
  refine lv_iload_n hx hb dX1_rightsIn_5 rfl (lv_at hl 1 rfl) ?_
  replace hf := xsBd_use hf
  obtain ⟨o1, h2, hf⟩ := hf
  refine xs_calli hS (xs_runV (As := [.ref (xsA X 19), .int a0]) C (mX1_endsIn_v1 l  h2) w_742 w_744 w_12 w_112 w_745 hd_X1_endsIn ⟨rfl, rfl, Nat.le_of_ble_eq_true rfl, Nat.le_of_ble_eq_true rfl, Nat.zero_le _, Nat.zero_le _⟩ hP hD hS lk_X1 rfl hl.1 rfl (Nat.le_of_ble_eq_true rfl) dX1_rightsIn_6) (fun H locs hP hD hS => ?_)
  have ho := Option.some.inj hf
  subst ho
  rw [hQq]
  exact xs_iret C hr hlk hP hD hS dX1_rightsIn_9
set_option maxRecDepth 100000 in
set_option maxHeartbeats 8000000 in
theorem mX1_insidesIn (l : Launch) {X : xsX} {kIsKept kIsStale hiLatest hiSize scLength scFault scAt scNumber piSegmentsNow enKind enFromX enFromY enToX enToY tiMeetingPairs tiAlongPairs tiSize evSize evCrossings evSegmentsNow grEdges grQueued huSize huBestX huBestY : Int32} {scBytes scTold tiTouching tiLyingAlong evBundle evCrossingOf evEventOf evLeftEvent evRightEvent grDegree grFar grQueue huX huY : Nat → Int32} {enX enY enLower : Int64} {evX evY evLower : Nat → Int64} {S : Nat → xsV} {Rw : va_W} {a0 : Int32} {out : Int32} (hf : fX1_insidesIn evBundle evLeftEvent evRightEvent evSegmentsNow a0 = some out) : Met l yX1_insidesIn (xsWs yX1_insidesIn cX1_insidesIn 2 (some .int)) { frames := 2, cells := 0, slots := 0, locals := 45 } (xsP X (wK X kIsKept kIsStale hiLatest hiSize scBytes scTold scLength scFault scAt scNumber piSegmentsNow enKind enX enY enLower enFromX enFromY enToX enToY tiTouching tiLyingAlong tiMeetingPairs tiAlongPairs tiSize evX evY evLower evBundle evCrossingOf evEventOf evLeftEvent evRightEvent evSize evCrossings evSegmentsNow grDegree grEdges grFar grQueue grQueued huX huY huSize huBestX huBestY S Rw) [.ref (xsA X 11), .int a0]) (xsQi X out (wK X kIsKept kIsStale hiLatest hiSize scBytes scTold scLength scFault scAt scNumber piSegmentsNow enKind enX enY enLower enFromX enFromY enToX enToY tiTouching tiLyingAlong tiMeetingPairs tiAlongPairs tiSize evX evY evLower evBundle evCrossingOf evEventOf evLeftEvent evRightEvent evSize evCrossings evSegmentsNow grDegree grEdges grFar grQueue grQueued huX huY huSize huBestX huBestY S Rw)) 0 0 (xsF X) := by
  refine xs_meth RX1 (by decide) rfl (Nat.le_of_ble_eq_true rfl) ?_
  intro p e s m below meth c ls H locs C hP hD hS hr hlk hl
  have hx := C.1
  have hb := C.2.1
  have hl : lv_has ls 2 [(0, .ref (xsA X 11)), (1, .int a0)] := hl
  obtain ⟨Qq, hQq⟩ : ∃ Qq, Qq = xsQi X out (wK X kIsKept kIsStale hiLatest hiSize scBytes scTold scLength scFault scAt scNumber piSegmentsNow enKind enX enY enLower enFromX enFromY enToX enToY tiTouching tiLyingAlong tiMeetingPairs tiAlongPairs tiSize evX evY evLower evBundle evCrossingOf evEventOf evLeftEvent evRightEvent evSize evCrossings evSegmentsNow grDegree grEdges grFar grQueue grQueued huX huY huSize huBestX huBestY S Rw) := ⟨_, rfl⟩
  rw [← hQq]
  unfold fX1_insidesIn at hf
  refine lv_aload_n hx hb dX1_insidesIn_0 rfl (lv_at hl 0 rfl) ?_
  refine xg_X1_21 C hP dX1_insidesIn_1 ?_
  refine lv_iload_n hx hb dX1_insidesIn_4 rfl (lv_at hl 1 rfl) ?_
  replace hf := xsCk_use hf
  obtain ⟨h1, hf⟩ := hf
  refine xl_evBundle C hP h1 dX1_insidesIn_5 ?_
  refine lv_aload_n hx hb dX1_insidesIn_6 rfl (lv_at hl 0 rfl) ?_
  refine lv_iload_n hx hb dX1_insidesIn_7 rfl (lv_at hl 1 rfl) ?_
  replace hf := xsBd_use hf
  obtain ⟨o2, h3, hf⟩ := hf
  refine xs_calli hS (xs_runV (As := [.int a0]) C (mX1_leftsIn l  h3) w_738 w_739 w_740 w_112 w_741 hd_X1_leftsIn ⟨rfl, rfl, Nat.le_of_ble_eq_true rfl, Nat.le_of_ble_eq_true rfl, Nat.zero_le _, Nat.zero_le _⟩ hP hD hS lk_X1 rfl hl.1 rfl (Nat.le_of_ble_eq_true rfl) dX1_insidesIn_8) (fun H locs hP hD hS => ?_)
  refine lv_iconst (v := (-1 : Int32)) hx hb dX1_insidesIn_11 (by decide) ?_
  refine lv_ixor hx hb dX1_insidesIn_12 ?_
  refine lv_iand hx hb dX1_insidesIn_13 ?_
  refine lv_aload_n hx hb dX1_insidesIn_14 rfl (lv_at hl 0 rfl) ?_
  refine lv_iload_n hx hb dX1_insidesIn_15 rfl (lv_at hl 1 rfl) ?_
  replace hf := xsBd_use hf
  obtain ⟨o4, h5, hf⟩ := hf
  refine xs_calli hS (xs_runV (As := [.int a0]) C (mX1_rightsIn l  h5) w_746 w_747 w_748 w_112 w_749 hd_X1_rightsIn ⟨rfl, rfl, Nat.le_of_ble_eq_true rfl, Nat.le_of_ble_eq_true rfl, Nat.zero_le _, Nat.zero_le _⟩ hP hD hS lk_X1 rfl hl.1 rfl (Nat.le_of_ble_eq_true rfl) dX1_insidesIn_16) (fun H locs hP hD hS => ?_)
  refine lv_iconst (v := (-1 : Int32)) hx hb dX1_insidesIn_19 (by decide) ?_
  refine lv_ixor hx hb dX1_insidesIn_20 ?_
  refine lv_iand hx hb dX1_insidesIn_21 ?_
  have ho := Option.some.inj hf
  subst ho
  rw [hQq]
  exact xs_iret C hr hlk hP hD hS dX1_insidesIn_22
set_option maxRecDepth 100000 in
set_option maxHeartbeats 8000000 in
theorem mX1_aliveBehind (l : Launch) {X : xsX} {kIsKept kIsStale hiLatest hiSize scLength scFault scAt scNumber piSegmentsNow enKind enFromX enFromY enToX enToY tiMeetingPairs tiAlongPairs tiSize evSize evCrossings evSegmentsNow grEdges grQueued huSize huBestX huBestY : Int32} {scBytes scTold tiTouching tiLyingAlong evBundle evCrossingOf evEventOf evLeftEvent evRightEvent grDegree grFar grQueue huX huY : Nat → Int32} {enX enY enLower : Int64} {evX evY evLower : Nat → Int64} {S : Nat → xsV} {Rw : va_W} {a0 : Int32} {out : Int32} (hf : fX1_aliveBehind evLeftEvent evRightEvent evSegmentsNow a0 = some out) : Met l yX1_aliveBehind (xsWs yX1_aliveBehind cX1_aliveBehind 4 (some .int)) { frames := 0, cells := 0, slots := 0, locals := 0 } (xsP X (wK X kIsKept kIsStale hiLatest hiSize scBytes scTold scLength scFault scAt scNumber piSegmentsNow enKind enX enY enLower enFromX enFromY enToX enToY tiTouching tiLyingAlong tiMeetingPairs tiAlongPairs tiSize evX evY evLower evBundle evCrossingOf evEventOf evLeftEvent evRightEvent evSize evCrossings evSegmentsNow grDegree grEdges grFar grQueue grQueued huX huY huSize huBestX huBestY S Rw) [.ref (xsA X 11), .int a0]) (xsQi X out (wK X kIsKept kIsStale hiLatest hiSize scBytes scTold scLength scFault scAt scNumber piSegmentsNow enKind enX enY enLower enFromX enFromY enToX enToY tiTouching tiLyingAlong tiMeetingPairs tiAlongPairs tiSize evX evY evLower evBundle evCrossingOf evEventOf evLeftEvent evRightEvent evSize evCrossings evSegmentsNow grDegree grEdges grFar grQueue grQueued huX huY huSize huBestX huBestY S Rw)) 0 0 (xsF X) := by
  refine xs_meth RX1 (by decide) rfl (Nat.le_of_ble_eq_true rfl) ?_
  intro p e s m below meth c ls H locs C hP hD hS hr hlk hl
  have hx := C.1
  have hb := C.2.1
  have hl : lv_has ls 4 [(0, .ref (xsA X 11)), (1, .int a0)] := hl
  obtain ⟨Qq, hQq⟩ : ∃ Qq, Qq = xsQi X out (wK X kIsKept kIsStale hiLatest hiSize scBytes scTold scLength scFault scAt scNumber piSegmentsNow enKind enX enY enLower enFromX enFromY enToX enToY tiTouching tiLyingAlong tiMeetingPairs tiAlongPairs tiSize evX evY evLower evBundle evCrossingOf evEventOf evLeftEvent evRightEvent evSize evCrossings evSegmentsNow grDegree grEdges grFar grQueue grQueued huX huY huSize huBestX huBestY S Rw) := ⟨_, rfl⟩
  rw [← hQq]
  unfold fX1_aliveBehind at hf
  refine lv_iconst (v := (0 : Int32)) hx hb dX1_aliveBehind_0 (by decide) ?_
  refine lv_istore_n (lv' := [(2, .int (0 : Int32)), (0, .ref (xsA X 11)), (1, .int a0)]) hx hb dX1_aliveBehind_1 rfl hl (by decide) rfl (fun ls hl => ?_)
  refine lv_iconst (v := (0 : Int32)) hx hb dX1_aliveBehind_2 (by decide) ?_
  refine lv_istore_n (lv' := [(3, .int (0 : Int32)), (2, .int (0 : Int32)), (0, .ref (xsA X 11)), (1, .int a0)]) hx hb dX1_aliveBehind_3 rfl hl (by decide) rfl (fun ls hl => ?_)
  have K3 : ∀ (y4 : Int32) (hf : fX1_aliveBehind_J44 y4 = some out) (H : Heap) (locs : List Loc) (ls : Array Slot), va_P (xsD X) vwCl (wK X kIsKept kIsStale hiLatest hiSize scBytes scTold scLength scFault scAt scNumber piSegmentsNow enKind enX enY enLower enFromX enFromY enToX enToY tiTouching tiLyingAlong tiMeetingPairs tiAlongPairs tiSize evX evY evLower evBundle evCrossingOf evEventOf evLeftEvent evRightEvent evSize evCrossings evSegmentsNow grDegree grEdges grFar grQueue grQueued huX huY huSize huBestX huBestY S Rw) H → va_D (xsF X) (wK X kIsKept kIsStale hiLatest hiSize scBytes scTold scLength scFault scAt scNumber piSegmentsNow enKind enX enY enLower enFromX enFromY enToX enToY tiTouching tiLyingAlong tiMeetingPairs tiAlongPairs tiSize evX evY evLower evBundle evCrossingOf evEventOf evLeftEvent evRightEvent evSize evCrossings evSegmentsNow grDegree grEdges grFar grQueue grQueued huX huY huSize huBestX huBestY S Rw) → va_S (xsF X) s.heap H locs → lv_has ls 4 [(2, .int y4)] → W p l e { frames := 0, cells := 0, slots := 0, locals := 0 } s m ([.ref (xsA X 11), .int a0] : List Value).toArray below meth c H locs 0 0 (MQ below Qq ([.ref (xsA X 11), .int a0] : List Value).toArray s 0 0 (xsF X)) (F0 m 44 ls []) := by
    intro y4 hf H locs ls hP hD hS hl
    unfold fX1_aliveBehind_J44 at hf
    refine lv_iload_n hx hb dX1_aliveBehind_44 rfl (lv_at hl 0 rfl) ?_
    have ho := Option.some.inj hf
    subst ho
    rw [hQq]
    exact xs_iret C hr hlk hP hD hS dX1_aliveBehind_45
  replace hf := xsBd_use hf
  obtain ⟨r3, hk30, hf⟩ := hf
  have L3 : ∀ (sg : Int32 × Int32) (rg : Int32), xsWh (fun s3 => fX1_aliveBehind_L4 evLeftEvent evRightEvent evSegmentsNow a0 s3.1 s3.2) sg = some rg → (fX1_aliveBehind_J44 rg = some out → ∀ (H : Heap) (locs : List Loc) (ls : Array Slot), va_P (xsD X) vwCl (wK X kIsKept kIsStale hiLatest hiSize scBytes scTold scLength scFault scAt scNumber piSegmentsNow enKind enX enY enLower enFromX enFromY enToX enToY tiTouching tiLyingAlong tiMeetingPairs tiAlongPairs tiSize evX evY evLower evBundle evCrossingOf evEventOf evLeftEvent evRightEvent evSize evCrossings evSegmentsNow grDegree grEdges grFar grQueue grQueued huX huY huSize huBestX huBestY S Rw) H → va_D (xsF X) (wK X kIsKept kIsStale hiLatest hiSize scBytes scTold scLength scFault scAt scNumber piSegmentsNow enKind enX enY enLower enFromX enFromY enToX enToY tiTouching tiLyingAlong tiMeetingPairs tiAlongPairs tiSize evX evY evLower evBundle evCrossingOf evEventOf evLeftEvent evRightEvent evSize evCrossings evSegmentsNow grDegree grEdges grFar grQueue grQueued huX huY huSize huBestX huBestY S Rw) → va_S (xsF X) s.heap H locs → lv_has ls 4 [(0, .ref (xsA X 11)), (1, .int a0), (2, .int sg.1), (3, .int sg.2)] → W p l e { frames := 0, cells := 0, slots := 0, locals := 0 } s m ([.ref (xsA X 11), .int a0] : List Value).toArray below meth c H locs 0 0 (MQ below Qq ([.ref (xsA X 11), .int a0] : List Value).toArray s 0 0 (xsF X)) (F0 m 4 ls [])) := by
    refine xsWh_ind ?_
    intro sg r3 u3 hf ih3 hx3 hk3 H locs ls hP hD hS hl
    obtain ⟨y1, y2⟩ := sg
    replace hf : fX1_aliveBehind_L4 evLeftEvent evRightEvent evSegmentsNow a0 y1 y2 = some u3 := hf
    replace hl : lv_has ls 4 [(0, .ref (xsA X 11)), (1, .int a0), (2, .int y1), (3, .int y2)] := hl
    replace hP : va_P (xsD X) vwCl (wK X kIsKept kIsStale hiLatest hiSize scBytes scTold scLength scFault scAt scNumber piSegmentsNow enKind enX enY enLower enFromX enFromY enToX enToY tiTouching tiLyingAlong tiMeetingPairs tiAlongPairs tiSize evX evY evLower evBundle evCrossingOf evEventOf evLeftEvent evRightEvent evSize evCrossings evSegmentsNow grDegree grEdges grFar grQueue grQueued huX huY huSize huBestX huBestY S Rw) H := hP
    replace hD : va_D (xsF X) (wK X kIsKept kIsStale hiLatest hiSize scBytes scTold scLength scFault scAt scNumber piSegmentsNow enKind enX enY enLower enFromX enFromY enToX enToY tiTouching tiLyingAlong tiMeetingPairs tiAlongPairs tiSize evX evY evLower evBundle evCrossingOf evEventOf evLeftEvent evRightEvent evSize evCrossings evSegmentsNow grDegree grEdges grFar grQueue grQueued huX huY huSize huBestX huBestY S Rw) := hD
    unfold fX1_aliveBehind_L4 at hf
    refine lv_iload_n hx hb dX1_aliveBehind_4 rfl (lv_at hl 3 rfl) ?_
    refine lv_aload_n hx hb dX1_aliveBehind_5 rfl (lv_at hl 0 rfl) ?_
    refine xg_X1_44 C hP dX1_aliveBehind_6 ?_
    refine lv_icmp_ge (tgt := 44) hx hb dX1_aliveBehind_9 (by decide) (fun c15 => ?_) (fun c15 => ?_)
    · replace hf := xsBr_t c15 hf
      have ez := hx3 _ (Option.some.inj hf).symm
      subst ez
      exact K3 y1 hk3 H locs ls hP hD hS (lv_sub hl [2] rfl)
    · replace hf := xsBr_f c15 hf
      refine lv_aload_n hx hb dX1_aliveBehind_12 rfl (lv_at hl 0 rfl) ?_
      refine xg_X1_31 C hP dX1_aliveBehind_13 ?_
      refine lv_iload_n hx hb dX1_aliveBehind_16 rfl (lv_at hl 3 rfl) ?_
      replace hf := xsCk_use hf
      obtain ⟨h5, hf⟩ := hf
      refine xl_evLeftEvent C hP h5 dX1_aliveBehind_17 ?_
      refine lv_iload_n hx hb dX1_aliveBehind_18 rfl (lv_at hl 1 rfl) ?_
      have K10 : ∀ (y6 : Int32) (hf : fX1_aliveBehind_J38 y2 y6 = some u3) (H : Heap) (locs : List Loc) (ls : Array Slot), va_P (xsD X) vwCl (wK X kIsKept kIsStale hiLatest hiSize scBytes scTold scLength scFault scAt scNumber piSegmentsNow enKind enX enY enLower enFromX enFromY enToX enToY tiTouching tiLyingAlong tiMeetingPairs tiAlongPairs tiSize evX evY evLower evBundle evCrossingOf evEventOf evLeftEvent evRightEvent evSize evCrossings evSegmentsNow grDegree grEdges grFar grQueue grQueued huX huY huSize huBestX huBestY S Rw) H → va_D (xsF X) (wK X kIsKept kIsStale hiLatest hiSize scBytes scTold scLength scFault scAt scNumber piSegmentsNow enKind enX enY enLower enFromX enFromY enToX enToY tiTouching tiLyingAlong tiMeetingPairs tiAlongPairs tiSize evX evY evLower evBundle evCrossingOf evEventOf evLeftEvent evRightEvent evSize evCrossings evSegmentsNow grDegree grEdges grFar grQueue grQueued huX huY huSize huBestX huBestY S Rw) → va_S (xsF X) s.heap H locs → lv_has ls 4 [(0, .ref (xsA X 11)), (1, .int a0), (2, .int y6), (3, .int y2)] → W p l e { frames := 0, cells := 0, slots := 0, locals := 0 } s m ([.ref (xsA X 11), .int a0] : List Value).toArray below meth c H locs 0 0 (MQ below Qq ([.ref (xsA X 11), .int a0] : List Value).toArray s 0 0 (xsF X)) (F0 m 38 ls []) := by
        intro y6 hf H locs ls hP hD hS hl
        unfold fX1_aliveBehind_J38 at hf
        obtain ⟨x7, ex7⟩ : ∃ y : Int32, y = y2 + (1 : Int32) := ⟨_, rfl⟩
        replace hf := xsLt_use ex7 hf
        refine lv_iinc (v := x7) (lv' := [(3, .int x7), (0, .ref (xsA X 11)), (1, .int a0), (2, .int y6)]) hx hb dX1_aliveBehind_38 hl (k := 3) rfl (by rw [ex7]; rfl) (by decide) rfl (fun ls hl => ?_)
        refine lv_goto (tgt := 4) hx hb dX1_aliveBehind_41 (by decide) ?_
        exact ih3 _ (Option.some.inj hf).symm hk3 H locs ls hP hD hS (lv_sub hl [1, 2, 3, 0] rfl)
      replace hf := xsBd_use hf
      obtain ⟨v8, hf, hk9⟩ := hf
      refine lv_icmp_gt (tgt := 38) hx hb dX1_aliveBehind_19 (by decide) (fun c14 => ?_) (fun c14 => ?_)
      · replace hf := xsBr_t c14 hf
        have ev := Option.some.inj hf
        subst ev
        exact K10 y1 hk9 H locs ls hP hD hS (lv_sub hl [0, 1, 2, 3] rfl)
      · replace hf := xsBr_f c14 hf
        refine lv_iload_n hx hb dX1_aliveBehind_22 rfl (lv_at hl 1 rfl) ?_
        refine lv_aload_n hx hb dX1_aliveBehind_23 rfl (lv_at hl 0 rfl) ?_
        refine xg_X1_34 C hP dX1_aliveBehind_24 ?_
        refine lv_iload_n hx hb dX1_aliveBehind_27 rfl (lv_at hl 3 rfl) ?_
        replace hf := xsCk_use hf
        obtain ⟨h11, hf⟩ := hf
        refine xl_evRightEvent C hP h11 dX1_aliveBehind_28 ?_
        refine lv_icmp_ge (tgt := 38) hx hb dX1_aliveBehind_29 (by decide) (fun c13 => ?_) (fun c13 => ?_)
        · replace hf := xsBr_t c13 hf
          have ev := Option.some.inj hf
          subst ev
          exact K10 y1 hk9 H locs ls hP hD hS (lv_sub hl [0, 1, 2, 3] rfl)
        · replace hf := xsBr_f c13 hf
          refine lv_iload_n hx hb dX1_aliveBehind_32 rfl (lv_at hl 2 rfl) ?_
          refine lv_iconst (v := (1 : Int32)) hx hb dX1_aliveBehind_33 (by decide) ?_
          refine lv_iload_n hx hb dX1_aliveBehind_34 rfl (lv_at hl 3 rfl) ?_
          refine lv_ishl hx hb dX1_aliveBehind_35 ?_
          refine lv_ior hx hb dX1_aliveBehind_36 ?_
          refine lv_topi (fun x12 ex12 => ?_)
          replace hf := xsLt_use ex12 hf
          refine lv_istore_n (lv' := [(2, .int x12), (0, .ref (xsA X 11)), (1, .int a0), (3, .int y2)]) hx hb dX1_aliveBehind_37 rfl hl (by decide) rfl (fun ls hl => ?_)
          have ev := Option.some.inj hf
          subst ev
          exact K10 x12 hk9 H locs ls hP hD hS (lv_sub hl [1, 2, 0, 3] rfl)
  exact L3 ((0 : Int32), (0 : Int32)) r3 hk30 hf H locs ls hP hD hS (lv_sub hl [2, 3, 1, 0] rfl)
set_option maxRecDepth 100000 in
set_option maxHeartbeats 8000000 in
theorem mX1_isLastOfItsX (l : Launch) {X : xsX} {kIsKept kIsStale hiLatest hiSize scLength scFault scAt scNumber piSegmentsNow enKind enFromX enFromY enToX enToY tiMeetingPairs tiAlongPairs tiSize evSize evCrossings evSegmentsNow grEdges grQueued huSize huBestX huBestY : Int32} {scBytes scTold tiTouching tiLyingAlong evBundle evCrossingOf evEventOf evLeftEvent evRightEvent grDegree grFar grQueue huX huY : Nat → Int32} {enX enY enLower : Int64} {evX evY evLower : Nat → Int64} {S : Nat → xsV} {Rw : va_W} {a0 : Int32} {out : Int32} (hf : fX1_isLastOfItsX evX evLower evSize a0 = some out) : Met l yX1_isLastOfItsX (xsWs yX1_isLastOfItsX cX1_isLastOfItsX 2 (some .boolean)) { frames := 0, cells := 0, slots := 0, locals := 0 } (xsP X (wK X kIsKept kIsStale hiLatest hiSize scBytes scTold scLength scFault scAt scNumber piSegmentsNow enKind enX enY enLower enFromX enFromY enToX enToY tiTouching tiLyingAlong tiMeetingPairs tiAlongPairs tiSize evX evY evLower evBundle evCrossingOf evEventOf evLeftEvent evRightEvent evSize evCrossings evSegmentsNow grDegree grEdges grFar grQueue grQueued huX huY huSize huBestX huBestY S Rw) [.ref (xsA X 11), .int a0]) (xsQi X out (wK X kIsKept kIsStale hiLatest hiSize scBytes scTold scLength scFault scAt scNumber piSegmentsNow enKind enX enY enLower enFromX enFromY enToX enToY tiTouching tiLyingAlong tiMeetingPairs tiAlongPairs tiSize evX evY evLower evBundle evCrossingOf evEventOf evLeftEvent evRightEvent evSize evCrossings evSegmentsNow grDegree grEdges grFar grQueue grQueued huX huY huSize huBestX huBestY S Rw)) 0 0 (xsF X) := by
  refine xs_meth RX1 (by decide) rfl (Nat.le_of_ble_eq_true rfl) ?_
  intro p e s m below meth c ls H locs C hP hD hS hr hlk hl
  have hx := C.1
  have hb := C.2.1
  have hl : lv_has ls 2 [(0, .ref (xsA X 11)), (1, .int a0)] := hl
  obtain ⟨Qq, hQq⟩ : ∃ Qq, Qq = xsQi X out (wK X kIsKept kIsStale hiLatest hiSize scBytes scTold scLength scFault scAt scNumber piSegmentsNow enKind enX enY enLower enFromX enFromY enToX enToY tiTouching tiLyingAlong tiMeetingPairs tiAlongPairs tiSize evX evY evLower evBundle evCrossingOf evEventOf evLeftEvent evRightEvent evSize evCrossings evSegmentsNow grDegree grEdges grFar grQueue grQueued huX huY huSize huBestX huBestY S Rw) := ⟨_, rfl⟩
  rw [← hQq]
  unfold fX1_isLastOfItsX at hf
  refine lv_iload_n hx hb dX1_isLastOfItsX_0 rfl (lv_at hl 1 rfl) ?_
  refine lv_iconst (v := (1 : Int32)) hx hb dX1_isLastOfItsX_1 (by decide) ?_
  refine lv_iadd hx hb dX1_isLastOfItsX_2 ?_
  refine lv_aload_n hx hb dX1_isLastOfItsX_3 rfl (lv_at hl 0 rfl) ?_
  refine xg_X1_37 C hP dX1_isLastOfItsX_4 ?_
  refine lv_icmp_ge (tgt := 44) hx hb dX1_isLastOfItsX_7 (by decide) (fun c6 => ?_) (fun c6 => ?_)
  · replace hf := xsBr_t c6 hf
    refine lv_iconst (v := (1 : Int32)) hx hb dX1_isLastOfItsX_44 (by decide) ?_
    refine lv_goto (tgt := 49) hx hb dX1_isLastOfItsX_45 (by decide) ?_
    have ho := Option.some.inj hf
    subst ho
    rw [hQq]
    exact xs_zret C hr hlk xsB_1 hP hD hS dX1_isLastOfItsX_49
  · replace hf := xsBr_f c6 hf
    refine lv_aload_n hx hb dX1_isLastOfItsX_10 rfl (lv_at hl 0 rfl) ?_
    refine xg_X1_9 C hP dX1_isLastOfItsX_11 ?_
    refine lv_iload_n hx hb dX1_isLastOfItsX_14 rfl (lv_at hl 1 rfl) ?_
    replace hf := xsCk_use hf
    obtain ⟨h1, hf⟩ := hf
    refine xl_evX C hP h1 dX1_isLastOfItsX_15 ?_
    refine lv_aload_n hx hb dX1_isLastOfItsX_16 rfl (lv_at hl 0 rfl) ?_
    refine xg_X1_18 C hP dX1_isLastOfItsX_17 ?_
    refine lv_iload_n hx hb dX1_isLastOfItsX_20 rfl (lv_at hl 1 rfl) ?_
    refine lv_iconst (v := (1 : Int32)) hx hb dX1_isLastOfItsX_21 (by decide) ?_
    refine lv_iadd hx hb dX1_isLastOfItsX_22 ?_
    replace hf := xsCk_use hf
    obtain ⟨h2, hf⟩ := hf
    refine xl_evLower C hP h2 dX1_isLastOfItsX_23 ?_
    refine lv_lmul hx hb dX1_isLastOfItsX_24 ?_
    refine lv_aload_n hx hb dX1_isLastOfItsX_25 rfl (lv_at hl 0 rfl) ?_
    refine xg_X1_9 C hP dX1_isLastOfItsX_26 ?_
    refine lv_iload_n hx hb dX1_isLastOfItsX_29 rfl (lv_at hl 1 rfl) ?_
    refine lv_iconst (v := (1 : Int32)) hx hb dX1_isLastOfItsX_30 (by decide) ?_
    refine lv_iadd hx hb dX1_isLastOfItsX_31 ?_
    replace hf := xsCk_use hf
    obtain ⟨h3, hf⟩ := hf
    refine xl_evX C hP h3 dX1_isLastOfItsX_32 ?_
    refine lv_aload_n hx hb dX1_isLastOfItsX_33 rfl (lv_at hl 0 rfl) ?_
    refine xg_X1_18 C hP dX1_isLastOfItsX_34 ?_
    refine lv_iload_n hx hb dX1_isLastOfItsX_37 rfl (lv_at hl 1 rfl) ?_
    replace hf := xsCk_use hf
    obtain ⟨h4, hf⟩ := hf
    refine xl_evLower C hP h4 dX1_isLastOfItsX_38 ?_
    refine lv_lmul hx hb dX1_isLastOfItsX_39 ?_
    refine xs_lcmp_eq (tgt := 48) C dX1_isLastOfItsX_40 dX1_isLastOfItsX_41 (by decide) (fun c5 => ?_) (fun c5 => ?_)
    · replace hf := xsBr_t c5 hf
      refine lv_iconst (v := (0 : Int32)) hx hb dX1_isLastOfItsX_48 (by decide) ?_
      have ho := Option.some.inj hf
      subst ho
      rw [hQq]
      exact xs_zret C hr hlk xsB_0 hP hD hS dX1_isLastOfItsX_49
    · replace hf := xsBr_f c5 hf
      refine lv_iconst (v := (1 : Int32)) hx hb dX1_isLastOfItsX_44 (by decide) ?_
      refine lv_goto (tgt := 49) hx hb dX1_isLastOfItsX_45 (by decide) ?_
      have ho := Option.some.inj hf
      subst ho
      rw [hQq]
      exact xs_zret C hr hlk xsB_1 hP hD hS dX1_isLastOfItsX_49
set_option maxRecDepth 100000 in
set_option maxHeartbeats 8000000 in
theorem mX1_eventsOn (l : Launch) {X : xsX} {kIsKept kIsStale hiLatest hiSize scLength scFault scAt scNumber piSegmentsNow enKind enFromX enFromY enToX enToY tiMeetingPairs tiAlongPairs tiSize evSize evCrossings evSegmentsNow grEdges grQueued huSize huBestX huBestY : Int32} {scBytes scTold tiTouching tiLyingAlong evBundle evCrossingOf evEventOf evLeftEvent evRightEvent grDegree grFar grQueue huX huY : Nat → Int32} {enX enY enLower : Int64} {evX evY evLower : Nat → Int64} {S : Nat → xsV} {Rw : va_W} {a0 : Int32} {out : Int32} (hf : fX1_eventsOn evBundle evSize a0 = some out) : Met l yX1_eventsOn (xsWs yX1_eventsOn cX1_eventsOn 4 (some .int)) { frames := 1, cells := 0, slots := 0, locals := 21 } (xsP X (wK X kIsKept kIsStale hiLatest hiSize scBytes scTold scLength scFault scAt scNumber piSegmentsNow enKind enX enY enLower enFromX enFromY enToX enToY tiTouching tiLyingAlong tiMeetingPairs tiAlongPairs tiSize evX evY evLower evBundle evCrossingOf evEventOf evLeftEvent evRightEvent evSize evCrossings evSegmentsNow grDegree grEdges grFar grQueue grQueued huX huY huSize huBestX huBestY S Rw) [.ref (xsA X 11), .int a0]) (xsQi X out (wK X kIsKept kIsStale hiLatest hiSize scBytes scTold scLength scFault scAt scNumber piSegmentsNow enKind enX enY enLower enFromX enFromY enToX enToY tiTouching tiLyingAlong tiMeetingPairs tiAlongPairs tiSize evX evY evLower evBundle evCrossingOf evEventOf evLeftEvent evRightEvent evSize evCrossings evSegmentsNow grDegree grEdges grFar grQueue grQueued huX huY huSize huBestX huBestY S Rw)) 0 0 (xsF X) := by
  refine xs_meth RX1 (by decide) rfl (Nat.le_of_ble_eq_true rfl) ?_
  intro p e s m below meth c ls H locs C hP hD hS hr hlk hl
  have hx := C.1
  have hb := C.2.1
  have hl : lv_has ls 4 [(0, .ref (xsA X 11)), (1, .int a0)] := hl
  obtain ⟨Qq, hQq⟩ : ∃ Qq, Qq = xsQi X out (wK X kIsKept kIsStale hiLatest hiSize scBytes scTold scLength scFault scAt scNumber piSegmentsNow enKind enX enY enLower enFromX enFromY enToX enToY tiTouching tiLyingAlong tiMeetingPairs tiAlongPairs tiSize evX evY evLower evBundle evCrossingOf evEventOf evLeftEvent evRightEvent evSize evCrossings evSegmentsNow grDegree grEdges grFar grQueue grQueued huX huY huSize huBestX huBestY S Rw) := ⟨_, rfl⟩
  rw [← hQq]
  unfold fX1_eventsOn at hf
  refine lv_iconst (v := (0 : Int32)) hx hb dX1_eventsOn_0 (by decide) ?_
  refine lv_istore_n (lv' := [(2, .int (0 : Int32)), (0, .ref (xsA X 11)), (1, .int a0)]) hx hb dX1_eventsOn_1 rfl hl (by decide) rfl (fun ls hl => ?_)
  refine lv_iconst (v := (0 : Int32)) hx hb dX1_eventsOn_2 (by decide) ?_
  refine lv_istore_n (lv' := [(3, .int (0 : Int32)), (2, .int (0 : Int32)), (0, .ref (xsA X 11)), (1, .int a0)]) hx hb dX1_eventsOn_3 rfl hl (by decide) rfl (fun ls hl => ?_)
  have K3 : ∀ (y4 : Int32) (hf : fX1_eventsOn_J34 y4 = some out) (H : Heap) (locs : List Loc) (ls : Array Slot), va_P (xsD X) vwCl (wK X kIsKept kIsStale hiLatest hiSize scBytes scTold scLength scFault scAt scNumber piSegmentsNow enKind enX enY enLower enFromX enFromY enToX enToY tiTouching tiLyingAlong tiMeetingPairs tiAlongPairs tiSize evX evY evLower evBundle evCrossingOf evEventOf evLeftEvent evRightEvent evSize evCrossings evSegmentsNow grDegree grEdges grFar grQueue grQueued huX huY huSize huBestX huBestY S Rw) H → va_D (xsF X) (wK X kIsKept kIsStale hiLatest hiSize scBytes scTold scLength scFault scAt scNumber piSegmentsNow enKind enX enY enLower enFromX enFromY enToX enToY tiTouching tiLyingAlong tiMeetingPairs tiAlongPairs tiSize evX evY evLower evBundle evCrossingOf evEventOf evLeftEvent evRightEvent evSize evCrossings evSegmentsNow grDegree grEdges grFar grQueue grQueued huX huY huSize huBestX huBestY S Rw) → va_S (xsF X) s.heap H locs → lv_has ls 4 [(2, .int y4)] → W p l e { frames := 1, cells := 0, slots := 0, locals := 21 } s m ([.ref (xsA X 11), .int a0] : List Value).toArray below meth c H locs 0 0 (MQ below Qq ([.ref (xsA X 11), .int a0] : List Value).toArray s 0 0 (xsF X)) (F0 m 34 ls []) := by
    intro y4 hf H locs ls hP hD hS hl
    unfold fX1_eventsOn_J34 at hf
    refine lv_iload_n hx hb dX1_eventsOn_34 rfl (lv_at hl 0 rfl) ?_
    have ho := Option.some.inj hf
    subst ho
    rw [hQq]
    exact xs_iret C hr hlk hP hD hS dX1_eventsOn_35
  replace hf := xsBd_use hf
  obtain ⟨r3, hk30, hf⟩ := hf
  have L3 : ∀ (sg : Int32 × Int32) (rg : Int32), xsWh (fun s3 => fX1_eventsOn_L4 evBundle evSize a0 s3.1 s3.2) sg = some rg → (fX1_eventsOn_J34 rg = some out → ∀ (H : Heap) (locs : List Loc) (ls : Array Slot), va_P (xsD X) vwCl (wK X kIsKept kIsStale hiLatest hiSize scBytes scTold scLength scFault scAt scNumber piSegmentsNow enKind enX enY enLower enFromX enFromY enToX enToY tiTouching tiLyingAlong tiMeetingPairs tiAlongPairs tiSize evX evY evLower evBundle evCrossingOf evEventOf evLeftEvent evRightEvent evSize evCrossings evSegmentsNow grDegree grEdges grFar grQueue grQueued huX huY huSize huBestX huBestY S Rw) H → va_D (xsF X) (wK X kIsKept kIsStale hiLatest hiSize scBytes scTold scLength scFault scAt scNumber piSegmentsNow enKind enX enY enLower enFromX enFromY enToX enToY tiTouching tiLyingAlong tiMeetingPairs tiAlongPairs tiSize evX evY evLower evBundle evCrossingOf evEventOf evLeftEvent evRightEvent evSize evCrossings evSegmentsNow grDegree grEdges grFar grQueue grQueued huX huY huSize huBestX huBestY S Rw) → va_S (xsF X) s.heap H locs → lv_has ls 4 [(0, .ref (xsA X 11)), (1, .int a0), (2, .int sg.1), (3, .int sg.2)] → W p l e { frames := 1, cells := 0, slots := 0, locals := 21 } s m ([.ref (xsA X 11), .int a0] : List Value).toArray below meth c H locs 0 0 (MQ below Qq ([.ref (xsA X 11), .int a0] : List Value).toArray s 0 0 (xsF X)) (F0 m 4 ls [])) := by
    refine xsWh_ind ?_
    intro sg r3 u3 hf ih3 hx3 hk3 H locs ls hP hD hS hl
    obtain ⟨y1, y2⟩ := sg
    replace hf : fX1_eventsOn_L4 evBundle evSize a0 y1 y2 = some u3 := hf
    replace hl : lv_has ls 4 [(0, .ref (xsA X 11)), (1, .int a0), (2, .int y1), (3, .int y2)] := hl
    replace hP : va_P (xsD X) vwCl (wK X kIsKept kIsStale hiLatest hiSize scBytes scTold scLength scFault scAt scNumber piSegmentsNow enKind enX enY enLower enFromX enFromY enToX enToY tiTouching tiLyingAlong tiMeetingPairs tiAlongPairs tiSize evX evY evLower evBundle evCrossingOf evEventOf evLeftEvent evRightEvent evSize evCrossings evSegmentsNow grDegree grEdges grFar grQueue grQueued huX huY huSize huBestX huBestY S Rw) H := hP
    replace hD : va_D (xsF X) (wK X kIsKept kIsStale hiLatest hiSize scBytes scTold scLength scFault scAt scNumber piSegmentsNow enKind enX enY enLower enFromX enFromY enToX enToY tiTouching tiLyingAlong tiMeetingPairs tiAlongPairs tiSize evX evY evLower evBundle evCrossingOf evEventOf evLeftEvent evRightEvent evSize evCrossings evSegmentsNow grDegree grEdges grFar grQueue grQueued huX huY huSize huBestX huBestY S Rw) := hD
    unfold fX1_eventsOn_L4 at hf
    refine lv_iload_n hx hb dX1_eventsOn_4 rfl (lv_at hl 3 rfl) ?_
    refine lv_aload_n hx hb dX1_eventsOn_5 rfl (lv_at hl 0 rfl) ?_
    refine xg_X1_37 C hP dX1_eventsOn_6 ?_
    refine lv_icmp_ge (tgt := 34) hx hb dX1_eventsOn_9 (by decide) (fun c15 => ?_) (fun c15 => ?_)
    · replace hf := xsBr_t c15 hf
      have ez := hx3 _ (Option.some.inj hf).symm
      subst ez
      exact K3 y1 hk3 H locs ls hP hD hS (lv_sub hl [2] rfl)
    · replace hf := xsBr_f c15 hf
      refine lv_aload_n hx hb dX1_eventsOn_12 rfl (lv_at hl 0 rfl) ?_
      refine xg_X1_21 C hP dX1_eventsOn_13 ?_
      refine lv_iload_n hx hb dX1_eventsOn_16 rfl (lv_at hl 3 rfl) ?_
      replace hf := xsCk_use hf
      obtain ⟨h5, hf⟩ := hf
      refine xl_evBundle C hP h5 dX1_eventsOn_17 ?_
      refine lv_iload_n hx hb dX1_eventsOn_18 rfl (lv_at hl 1 rfl) ?_
      replace hf := xsBd_use hf
      obtain ⟨o6, h7, hf⟩ := hf
      refine xs_calli hS (xs_runSN (As := [.int (evBundle y2.toNatClampNeg), .int a0]) C (mX10_has l  h7) C.2.2.2.2.2.2.2.1.2.2.2.2.2.1 w_605 w_105 w_606 hd_X10_has ⟨rfl, rfl, Nat.le_of_ble_eq_true rfl, Nat.le_of_ble_eq_true rfl, Nat.zero_le _, Nat.zero_le _⟩ hP hD hS hl.1 rfl (Nat.le_of_ble_eq_true rfl) dX1_eventsOn_19) (fun H locs hP hD hS => ?_)
      have K12 : ∀ (y8 : Int32) (hf : fX1_eventsOn_J28 y2 y8 = some u3) (H : Heap) (locs : List Loc) (ls : Array Slot), va_P (xsD X) vwCl (wK X kIsKept kIsStale hiLatest hiSize scBytes scTold scLength scFault scAt scNumber piSegmentsNow enKind enX enY enLower enFromX enFromY enToX enToY tiTouching tiLyingAlong tiMeetingPairs tiAlongPairs tiSize evX evY evLower evBundle evCrossingOf evEventOf evLeftEvent evRightEvent evSize evCrossings evSegmentsNow grDegree grEdges grFar grQueue grQueued huX huY huSize huBestX huBestY S Rw) H → va_D (xsF X) (wK X kIsKept kIsStale hiLatest hiSize scBytes scTold scLength scFault scAt scNumber piSegmentsNow enKind enX enY enLower enFromX enFromY enToX enToY tiTouching tiLyingAlong tiMeetingPairs tiAlongPairs tiSize evX evY evLower evBundle evCrossingOf evEventOf evLeftEvent evRightEvent evSize evCrossings evSegmentsNow grDegree grEdges grFar grQueue grQueued huX huY huSize huBestX huBestY S Rw) → va_S (xsF X) s.heap H locs → lv_has ls 4 [(0, .ref (xsA X 11)), (1, .int a0), (2, .int y8), (3, .int y2)] → W p l e { frames := 1, cells := 0, slots := 0, locals := 21 } s m ([.ref (xsA X 11), .int a0] : List Value).toArray below meth c H locs 0 0 (MQ below Qq ([.ref (xsA X 11), .int a0] : List Value).toArray s 0 0 (xsF X)) (F0 m 28 ls []) := by
        intro y8 hf H locs ls hP hD hS hl
        unfold fX1_eventsOn_J28 at hf
        obtain ⟨x9, ex9⟩ : ∃ y : Int32, y = y2 + (1 : Int32) := ⟨_, rfl⟩
        replace hf := xsLt_use ex9 hf
        refine lv_iinc (v := x9) (lv' := [(3, .int x9), (0, .ref (xsA X 11)), (1, .int a0), (2, .int y8)]) hx hb dX1_eventsOn_28 hl (k := 3) rfl (by rw [ex9]; rfl) (by decide) rfl (fun ls hl => ?_)
        refine lv_goto (tgt := 4) hx hb dX1_eventsOn_31 (by decide) ?_
        exact ih3 _ (Option.some.inj hf).symm hk3 H locs ls hP hD hS (lv_sub hl [1, 2, 3, 0] rfl)
      replace hf := xsBd_use hf
      obtain ⟨v10, hf, hk11⟩ := hf
      refine lv_if_eq (tgt := 28) hx hb dX1_eventsOn_22 (by decide) (fun c14 => ?_) (fun c14 => ?_)
      · replace hf := xsBr_t c14 hf
        have ev := Option.some.inj hf
        subst ev
        exact K12 y1 hk11 H locs ls hP hD hS (lv_sub hl [0, 1, 2, 3] rfl)
      · replace hf := xsBr_f c14 hf
        obtain ⟨x13, ex13⟩ : ∃ y : Int32, y = y1 + (1 : Int32) := ⟨_, rfl⟩
        replace hf := xsLt_use ex13 hf
        refine lv_iinc (v := x13) (lv' := [(2, .int x13), (0, .ref (xsA X 11)), (1, .int a0), (3, .int y2)]) hx hb dX1_eventsOn_25 hl (k := 2) rfl (by rw [ex13]; rfl) (by decide) rfl (fun ls hl => ?_)
        have ev := Option.some.inj hf
        subst ev
        exact K12 x13 hk11 H locs ls hP hD hS (lv_sub hl [1, 2, 0, 3] rfl)
  exact L3 ((0 : Int32), (0 : Int32)) r3 hk30 hf H locs ls hP hD hS (lv_sub hl [2, 3, 1, 0] rfl)
set_option maxRecDepth 100000 in
set_option maxHeartbeats 8000000 in
theorem mX1_crossingsOn (l : Launch) {X : xsX} {kIsKept kIsStale hiLatest hiSize scLength scFault scAt scNumber piSegmentsNow enKind enFromX enFromY enToX enToY tiMeetingPairs tiAlongPairs tiSize evSize evCrossings evSegmentsNow grEdges grQueued huSize huBestX huBestY : Int32} {scBytes scTold tiTouching tiLyingAlong evBundle evCrossingOf evEventOf evLeftEvent evRightEvent grDegree grFar grQueue huX huY : Nat → Int32} {enX enY enLower : Int64} {evX evY evLower : Nat → Int64} {S : Nat → xsV} {Rw : va_W} {a0 : Int32} {out : Int32} (hf : fX1_crossingsOn evBundle evEventOf evCrossings a0 = some out) : Met l yX1_crossingsOn (xsWs yX1_crossingsOn cX1_crossingsOn 4 (some .int)) { frames := 1, cells := 0, slots := 0, locals := 21 } (xsP X (wK X kIsKept kIsStale hiLatest hiSize scBytes scTold scLength scFault scAt scNumber piSegmentsNow enKind enX enY enLower enFromX enFromY enToX enToY tiTouching tiLyingAlong tiMeetingPairs tiAlongPairs tiSize evX evY evLower evBundle evCrossingOf evEventOf evLeftEvent evRightEvent evSize evCrossings evSegmentsNow grDegree grEdges grFar grQueue grQueued huX huY huSize huBestX huBestY S Rw) [.ref (xsA X 11), .int a0]) (xsQi X out (wK X kIsKept kIsStale hiLatest hiSize scBytes scTold scLength scFault scAt scNumber piSegmentsNow enKind enX enY enLower enFromX enFromY enToX enToY tiTouching tiLyingAlong tiMeetingPairs tiAlongPairs tiSize evX evY evLower evBundle evCrossingOf evEventOf evLeftEvent evRightEvent evSize evCrossings evSegmentsNow grDegree grEdges grFar grQueue grQueued huX huY huSize huBestX huBestY S Rw)) 0 0 (xsF X) := by
  refine xs_meth RX1 (by decide) rfl (Nat.le_of_ble_eq_true rfl) ?_
  intro p e s m below meth c ls H locs C hP hD hS hr hlk hl
  have hx := C.1
  have hb := C.2.1
  have hl : lv_has ls 4 [(0, .ref (xsA X 11)), (1, .int a0)] := hl
  obtain ⟨Qq, hQq⟩ : ∃ Qq, Qq = xsQi X out (wK X kIsKept kIsStale hiLatest hiSize scBytes scTold scLength scFault scAt scNumber piSegmentsNow enKind enX enY enLower enFromX enFromY enToX enToY tiTouching tiLyingAlong tiMeetingPairs tiAlongPairs tiSize evX evY evLower evBundle evCrossingOf evEventOf evLeftEvent evRightEvent evSize evCrossings evSegmentsNow grDegree grEdges grFar grQueue grQueued huX huY huSize huBestX huBestY S Rw) := ⟨_, rfl⟩
  rw [← hQq]
  unfold fX1_crossingsOn at hf
  refine lv_iconst (v := (0 : Int32)) hx hb dX1_crossingsOn_0 (by decide) ?_
  refine lv_istore_n (lv' := [(2, .int (0 : Int32)), (0, .ref (xsA X 11)), (1, .int a0)]) hx hb dX1_crossingsOn_1 rfl hl (by decide) rfl (fun ls hl => ?_)
  refine lv_iconst (v := (0 : Int32)) hx hb dX1_crossingsOn_2 (by decide) ?_
  refine lv_istore_n (lv' := [(3, .int (0 : Int32)), (2, .int (0 : Int32)), (0, .ref (xsA X 11)), (1, .int a0)]) hx hb dX1_crossingsOn_3 rfl hl (by decide) rfl (fun ls hl => ?_)
  have K3 : ∀ (y4 : Int32) (hf : fX1_crossingsOn_J39 y4 = some out) (H : Heap) (locs : List Loc) (ls : Array Slot), va_P (xsD X) vwCl (wK X kIsKept kIsStale hiLatest hiSize scBytes scTold scLength scFault scAt scNumber piSegmentsNow enKind enX enY enLower enFromX enFromY enToX enToY tiTouching tiLyingAlong tiMeetingPairs tiAlongPairs tiSize evX evY evLower evBundle evCrossingOf evEventOf evLeftEvent evRightEvent evSize evCrossings evSegmentsNow grDegree grEdges grFar grQueue grQueued huX huY huSize huBestX huBestY S Rw) H → va_D (xsF X) (wK X kIsKept kIsStale hiLatest hiSize scBytes scTold scLength scFault scAt scNumber piSegmentsNow enKind enX enY enLower enFromX enFromY enToX enToY tiTouching tiLyingAlong tiMeetingPairs tiAlongPairs tiSize evX evY evLower evBundle evCrossingOf evEventOf evLeftEvent evRightEvent evSize evCrossings evSegmentsNow grDegree grEdges grFar grQueue grQueued huX huY huSize huBestX huBestY S Rw) → va_S (xsF X) s.heap H locs → lv_has ls 4 [(2, .int y4)] → W p l e { frames := 1, cells := 0, slots := 0, locals := 21 } s m ([.ref (xsA X 11), .int a0] : List Value).toArray below meth c H locs 0 0 (MQ below Qq ([.ref (xsA X 11), .int a0] : List Value).toArray s 0 0 (xsF X)) (F0 m 39 ls []) := by
    intro y4 hf H locs ls hP hD hS hl
    unfold fX1_crossingsOn_J39 at hf
    refine lv_iload_n hx hb dX1_crossingsOn_39 rfl (lv_at hl 0 rfl) ?_
    have ho := Option.some.inj hf
    subst ho
    rw [hQq]
    exact xs_iret C hr hlk hP hD hS dX1_crossingsOn_40
  replace hf := xsBd_use hf
  obtain ⟨r3, hk30, hf⟩ := hf
  have L3 : ∀ (sg : Int32 × Int32) (rg : Int32), xsWh (fun s3 => fX1_crossingsOn_L4 evBundle evEventOf evCrossings a0 s3.1 s3.2) sg = some rg → (fX1_crossingsOn_J39 rg = some out → ∀ (H : Heap) (locs : List Loc) (ls : Array Slot), va_P (xsD X) vwCl (wK X kIsKept kIsStale hiLatest hiSize scBytes scTold scLength scFault scAt scNumber piSegmentsNow enKind enX enY enLower enFromX enFromY enToX enToY tiTouching tiLyingAlong tiMeetingPairs tiAlongPairs tiSize evX evY evLower evBundle evCrossingOf evEventOf evLeftEvent evRightEvent evSize evCrossings evSegmentsNow grDegree grEdges grFar grQueue grQueued huX huY huSize huBestX huBestY S Rw) H → va_D (xsF X) (wK X kIsKept kIsStale hiLatest hiSize scBytes scTold scLength scFault scAt scNumber piSegmentsNow enKind enX enY enLower enFromX enFromY enToX enToY tiTouching tiLyingAlong tiMeetingPairs tiAlongPairs tiSize evX evY evLower evBundle evCrossingOf evEventOf evLeftEvent evRightEvent evSize evCrossings evSegmentsNow grDegree grEdges grFar grQueue grQueued huX huY huSize huBestX huBestY S Rw) → va_S (xsF X) s.heap H locs → lv_has ls 4 [(0, .ref (xsA X 11)), (1, .int a0), (2, .int sg.1), (3, .int sg.2)] → W p l e { frames := 1, cells := 0, slots := 0, locals := 21 } s m ([.ref (xsA X 11), .int a0] : List Value).toArray below meth c H locs 0 0 (MQ below Qq ([.ref (xsA X 11), .int a0] : List Value).toArray s 0 0 (xsF X)) (F0 m 4 ls [])) := by
    refine xsWh_ind ?_
    intro sg r3 u3 hf ih3 hx3 hk3 H locs ls hP hD hS hl
    obtain ⟨y1, y2⟩ := sg
    replace hf : fX1_crossingsOn_L4 evBundle evEventOf evCrossings a0 y1 y2 = some u3 := hf
    replace hl : lv_has ls 4 [(0, .ref (xsA X 11)), (1, .int a0), (2, .int y1), (3, .int y2)] := hl
    replace hP : va_P (xsD X) vwCl (wK X kIsKept kIsStale hiLatest hiSize scBytes scTold scLength scFault scAt scNumber piSegmentsNow enKind enX enY enLower enFromX enFromY enToX enToY tiTouching tiLyingAlong tiMeetingPairs tiAlongPairs tiSize evX evY evLower evBundle evCrossingOf evEventOf evLeftEvent evRightEvent evSize evCrossings evSegmentsNow grDegree grEdges grFar grQueue grQueued huX huY huSize huBestX huBestY S Rw) H := hP
    replace hD : va_D (xsF X) (wK X kIsKept kIsStale hiLatest hiSize scBytes scTold scLength scFault scAt scNumber piSegmentsNow enKind enX enY enLower enFromX enFromY enToX enToY tiTouching tiLyingAlong tiMeetingPairs tiAlongPairs tiSize evX evY evLower evBundle evCrossingOf evEventOf evLeftEvent evRightEvent evSize evCrossings evSegmentsNow grDegree grEdges grFar grQueue grQueued huX huY huSize huBestX huBestY S Rw) := hD
    unfold fX1_crossingsOn_L4 at hf
    refine lv_iload_n hx hb dX1_crossingsOn_4 rfl (lv_at hl 3 rfl) ?_
    refine lv_aload_n hx hb dX1_crossingsOn_5 rfl (lv_at hl 0 rfl) ?_
    refine xg_X1_41 C hP dX1_crossingsOn_6 ?_
    refine lv_icmp_ge (tgt := 39) hx hb dX1_crossingsOn_9 (by decide) (fun c16 => ?_) (fun c16 => ?_)
    · replace hf := xsBr_t c16 hf
      have ez := hx3 _ (Option.some.inj hf).symm
      subst ez
      exact K3 y1 hk3 H locs ls hP hD hS (lv_sub hl [2] rfl)
    · replace hf := xsBr_f c16 hf
      refine lv_aload_n hx hb dX1_crossingsOn_12 rfl (lv_at hl 0 rfl) ?_
      refine xg_X1_21 C hP dX1_crossingsOn_13 ?_
      refine lv_aload_n hx hb dX1_crossingsOn_16 rfl (lv_at hl 0 rfl) ?_
      refine xg_X1_28 C hP dX1_crossingsOn_17 ?_
      refine lv_iload_n hx hb dX1_crossingsOn_20 rfl (lv_at hl 3 rfl) ?_
      replace hf := xsCk_use hf
      obtain ⟨h5, hf⟩ := hf
      refine xl_evEventOf C hP h5 dX1_crossingsOn_21 ?_
      replace hf := xsCk_use hf
      obtain ⟨h6, hf⟩ := hf
      refine xl_evBundle C hP h6 dX1_crossingsOn_22 ?_
      refine lv_iload_n hx hb dX1_crossingsOn_23 rfl (lv_at hl 1 rfl) ?_
      replace hf := xsBd_use hf
      obtain ⟨o7, h8, hf⟩ := hf
      refine xs_calli hS (xs_runSN (As := [.int (evBundle (evEventOf y2.toNatClampNeg).toNatClampNeg), .int a0]) C (mX10_has l  h8) C.2.2.2.2.2.2.2.1.2.2.2.2.2.1 w_605 w_105 w_606 hd_X10_has ⟨rfl, rfl, Nat.le_of_ble_eq_true rfl, Nat.le_of_ble_eq_true rfl, Nat.zero_le _, Nat.zero_le _⟩ hP hD hS hl.1 rfl (Nat.le_of_ble_eq_true rfl) dX1_crossingsOn_24) (fun H locs hP hD hS => ?_)
      have K13 : ∀ (y9 : Int32) (hf : fX1_crossingsOn_J33 y2 y9 = some u3) (H : Heap) (locs : List Loc) (ls : Array Slot), va_P (xsD X) vwCl (wK X kIsKept kIsStale hiLatest hiSize scBytes scTold scLength scFault scAt scNumber piSegmentsNow enKind enX enY enLower enFromX enFromY enToX enToY tiTouching tiLyingAlong tiMeetingPairs tiAlongPairs tiSize evX evY evLower evBundle evCrossingOf evEventOf evLeftEvent evRightEvent evSize evCrossings evSegmentsNow grDegree grEdges grFar grQueue grQueued huX huY huSize huBestX huBestY S Rw) H → va_D (xsF X) (wK X kIsKept kIsStale hiLatest hiSize scBytes scTold scLength scFault scAt scNumber piSegmentsNow enKind enX enY enLower enFromX enFromY enToX enToY tiTouching tiLyingAlong tiMeetingPairs tiAlongPairs tiSize evX evY evLower evBundle evCrossingOf evEventOf evLeftEvent evRightEvent evSize evCrossings evSegmentsNow grDegree grEdges grFar grQueue grQueued huX huY huSize huBestX huBestY S Rw) → va_S (xsF X) s.heap H locs → lv_has ls 4 [(0, .ref (xsA X 11)), (1, .int a0), (2, .int y9), (3, .int y2)] → W p l e { frames := 1, cells := 0, slots := 0, locals := 21 } s m ([.ref (xsA X 11), .int a0] : List Value).toArray below meth c H locs 0 0 (MQ below Qq ([.ref (xsA X 11), .int a0] : List Value).toArray s 0 0 (xsF X)) (F0 m 33 ls []) := by
        intro y9 hf H locs ls hP hD hS hl
        unfold fX1_crossingsOn_J33 at hf
        obtain ⟨x10, ex10⟩ : ∃ y : Int32, y = y2 + (1 : Int32) := ⟨_, rfl⟩
        replace hf := xsLt_use ex10 hf
        refine lv_iinc (v := x10) (lv' := [(3, .int x10), (0, .ref (xsA X 11)), (1, .int a0), (2, .int y9)]) hx hb dX1_crossingsOn_33 hl (k := 3) rfl (by rw [ex10]; rfl) (by decide) rfl (fun ls hl => ?_)
        refine lv_goto (tgt := 4) hx hb dX1_crossingsOn_36 (by decide) ?_
        exact ih3 _ (Option.some.inj hf).symm hk3 H locs ls hP hD hS (lv_sub hl [1, 2, 3, 0] rfl)
      replace hf := xsBd_use hf
      obtain ⟨v11, hf, hk12⟩ := hf
      refine lv_if_eq (tgt := 33) hx hb dX1_crossingsOn_27 (by decide) (fun c15 => ?_) (fun c15 => ?_)
      · replace hf := xsBr_t c15 hf
        have ev := Option.some.inj hf
        subst ev
        exact K13 y1 hk12 H locs ls hP hD hS (lv_sub hl [0, 1, 2, 3] rfl)
      · replace hf := xsBr_f c15 hf
        obtain ⟨x14, ex14⟩ : ∃ y : Int32, y = y1 + (1 : Int32) := ⟨_, rfl⟩
        replace hf := xsLt_use ex14 hf
        refine lv_iinc (v := x14) (lv' := [(2, .int x14), (0, .ref (xsA X 11)), (1, .int a0), (3, .int y2)]) hx hb dX1_crossingsOn_30 hl (k := 2) rfl (by rw [ex14]; rfl) (by decide) rfl (fun ls hl => ?_)
        have ev := Option.some.inj hf
        subst ev
        exact K13 x14 hk12 H locs ls hP hD hS (lv_sub hl [1, 2, 0, 3] rfl)
  exact L3 ((0 : Int32), (0 : Int32)) r3 hk30 hf H locs ls hP hD hS (lv_sub hl [2, 3, 1, 0] rfl)
set_option maxRecDepth 100000 in
set_option maxHeartbeats 8000000 in
theorem mX1_greatestBundle (l : Launch) {X : xsX} {kIsKept kIsStale hiLatest hiSize scLength scFault scAt scNumber piSegmentsNow enKind enFromX enFromY enToX enToY tiMeetingPairs tiAlongPairs tiSize evSize evCrossings evSegmentsNow grEdges grQueued huSize huBestX huBestY : Int32} {scBytes scTold tiTouching tiLyingAlong evBundle evCrossingOf evEventOf evLeftEvent evRightEvent grDegree grFar grQueue huX huY : Nat → Int32} {enX enY enLower : Int64} {evX evY evLower : Nat → Int64} {S : Nat → xsV} {Rw : va_W} {out : Int32} (hf : fX1_greatestBundle evBundle evEventOf evCrossings = some out) : Met l yX1_greatestBundle (xsWs yX1_greatestBundle cX1_greatestBundle 3 (some .int)) { frames := 1, cells := 0, slots := 0, locals := 24 } (xsP X (wK X kIsKept kIsStale hiLatest hiSize scBytes scTold scLength scFault scAt scNumber piSegmentsNow enKind enX enY enLower enFromX enFromY enToX enToY tiTouching tiLyingAlong tiMeetingPairs tiAlongPairs tiSize evX evY evLower evBundle evCrossingOf evEventOf evLeftEvent evRightEvent evSize evCrossings evSegmentsNow grDegree grEdges grFar grQueue grQueued huX huY huSize huBestX huBestY S Rw) [.ref (xsA X 11)]) (xsQi X out (wK X kIsKept kIsStale hiLatest hiSize scBytes scTold scLength scFault scAt scNumber piSegmentsNow enKind enX enY enLower enFromX enFromY enToX enToY tiTouching tiLyingAlong tiMeetingPairs tiAlongPairs tiSize evX evY evLower evBundle evCrossingOf evEventOf evLeftEvent evRightEvent evSize evCrossings evSegmentsNow grDegree grEdges grFar grQueue grQueued huX huY huSize huBestX huBestY S Rw)) 0 0 (xsF X) := by
  refine xs_meth RX1 (by decide) rfl (Nat.le_of_ble_eq_true rfl) ?_
  intro p e s m below meth c ls H locs C hP hD hS hr hlk hl
  have hx := C.1
  have hb := C.2.1
  have hl : lv_has ls 3 [(0, .ref (xsA X 11))] := hl
  obtain ⟨Qq, hQq⟩ : ∃ Qq, Qq = xsQi X out (wK X kIsKept kIsStale hiLatest hiSize scBytes scTold scLength scFault scAt scNumber piSegmentsNow enKind enX enY enLower enFromX enFromY enToX enToY tiTouching tiLyingAlong tiMeetingPairs tiAlongPairs tiSize evX evY evLower evBundle evCrossingOf evEventOf evLeftEvent evRightEvent evSize evCrossings evSegmentsNow grDegree grEdges grFar grQueue grQueued huX huY huSize huBestX huBestY S Rw) := ⟨_, rfl⟩
  rw [← hQq]
  unfold fX1_greatestBundle at hf
  refine lv_iconst (v := (0 : Int32)) hx hb dX1_greatestBundle_0 (by decide) ?_
  refine lv_istore_n (lv' := [(1, .int (0 : Int32)), (0, .ref (xsA X 11))]) hx hb dX1_greatestBundle_1 rfl hl (by decide) rfl (fun ls hl => ?_)
  refine lv_iconst (v := (0 : Int32)) hx hb dX1_greatestBundle_2 (by decide) ?_
  refine lv_istore_n (lv' := [(2, .int (0 : Int32)), (1, .int (0 : Int32)), (0, .ref (xsA X 11))]) hx hb dX1_greatestBundle_3 rfl hl (by decide) rfl (fun ls hl => ?_)
  have K3 : ∀ (y4 : Int32) (hf : fX1_greatestBundle_J37 y4 = some out) (H : Heap) (locs : List Loc) (ls : Array Slot), va_P (xsD X) vwCl (wK X kIsKept kIsStale hiLatest hiSize scBytes scTold scLength scFault scAt scNumber piSegmentsNow enKind enX enY enLower enFromX enFromY enToX enToY tiTouching tiLyingAlong tiMeetingPairs tiAlongPairs tiSize evX evY evLower evBundle evCrossingOf evEventOf evLeftEvent evRightEvent evSize evCrossings evSegmentsNow grDegree grEdges grFar grQueue grQueued huX huY huSize huBestX huBestY S Rw) H → va_D (xsF X) (wK X kIsKept kIsStale hiLatest hiSize scBytes scTold scLength scFault scAt scNumber piSegmentsNow enKind enX enY enLower enFromX enFromY enToX enToY tiTouching tiLyingAlong tiMeetingPairs tiAlongPairs tiSize evX evY evLower evBundle evCrossingOf evEventOf evLeftEvent evRightEvent evSize evCrossings evSegmentsNow grDegree grEdges grFar grQueue grQueued huX huY huSize huBestX huBestY S Rw) → va_S (xsF X) s.heap H locs → lv_has ls 3 [(1, .int y4)] → W p l e { frames := 1, cells := 0, slots := 0, locals := 24 } s m ([.ref (xsA X 11)] : List Value).toArray below meth c H locs 0 0 (MQ below Qq ([.ref (xsA X 11)] : List Value).toArray s 0 0 (xsF X)) (F0 m 37 ls []) := by
    intro y4 hf H locs ls hP hD hS hl
    unfold fX1_greatestBundle_J37 at hf
    refine lv_iload_n hx hb dX1_greatestBundle_37 rfl (lv_at hl 0 rfl) ?_
    have ho := Option.some.inj hf
    subst ho
    rw [hQq]
    exact xs_iret C hr hlk hP hD hS dX1_greatestBundle_38
  replace hf := xsBd_use hf
  obtain ⟨r3, hk30, hf⟩ := hf
  have L3 : ∀ (sg : Int32 × Int32) (rg : Int32), xsWh (fun s3 => fX1_greatestBundle_L4 evBundle evEventOf evCrossings s3.1 s3.2) sg = some rg → (fX1_greatestBundle_J37 rg = some out → ∀ (H : Heap) (locs : List Loc) (ls : Array Slot), va_P (xsD X) vwCl (wK X kIsKept kIsStale hiLatest hiSize scBytes scTold scLength scFault scAt scNumber piSegmentsNow enKind enX enY enLower enFromX enFromY enToX enToY tiTouching tiLyingAlong tiMeetingPairs tiAlongPairs tiSize evX evY evLower evBundle evCrossingOf evEventOf evLeftEvent evRightEvent evSize evCrossings evSegmentsNow grDegree grEdges grFar grQueue grQueued huX huY huSize huBestX huBestY S Rw) H → va_D (xsF X) (wK X kIsKept kIsStale hiLatest hiSize scBytes scTold scLength scFault scAt scNumber piSegmentsNow enKind enX enY enLower enFromX enFromY enToX enToY tiTouching tiLyingAlong tiMeetingPairs tiAlongPairs tiSize evX evY evLower evBundle evCrossingOf evEventOf evLeftEvent evRightEvent evSize evCrossings evSegmentsNow grDegree grEdges grFar grQueue grQueued huX huY huSize huBestX huBestY S Rw) → va_S (xsF X) s.heap H locs → lv_has ls 3 [(0, .ref (xsA X 11)), (1, .int sg.1), (2, .int sg.2)] → W p l e { frames := 1, cells := 0, slots := 0, locals := 24 } s m ([.ref (xsA X 11)] : List Value).toArray below meth c H locs 0 0 (MQ below Qq ([.ref (xsA X 11)] : List Value).toArray s 0 0 (xsF X)) (F0 m 4 ls [])) := by
    refine xsWh_ind ?_
    intro sg r3 u3 hf ih3 hx3 hk3 H locs ls hP hD hS hl
    obtain ⟨y1, y2⟩ := sg
    replace hf : fX1_greatestBundle_L4 evBundle evEventOf evCrossings y1 y2 = some u3 := hf
    replace hl : lv_has ls 3 [(0, .ref (xsA X 11)), (1, .int y1), (2, .int y2)] := hl
    replace hP : va_P (xsD X) vwCl (wK X kIsKept kIsStale hiLatest hiSize scBytes scTold scLength scFault scAt scNumber piSegmentsNow enKind enX enY enLower enFromX enFromY enToX enToY tiTouching tiLyingAlong tiMeetingPairs tiAlongPairs tiSize evX evY evLower evBundle evCrossingOf evEventOf evLeftEvent evRightEvent evSize evCrossings evSegmentsNow grDegree grEdges grFar grQueue grQueued huX huY huSize huBestX huBestY S Rw) H := hP
    replace hD : va_D (xsF X) (wK X kIsKept kIsStale hiLatest hiSize scBytes scTold scLength scFault scAt scNumber piSegmentsNow enKind enX enY enLower enFromX enFromY enToX enToY tiTouching tiLyingAlong tiMeetingPairs tiAlongPairs tiSize evX evY evLower evBundle evCrossingOf evEventOf evLeftEvent evRightEvent evSize evCrossings evSegmentsNow grDegree grEdges grFar grQueue grQueued huX huY huSize huBestX huBestY S Rw) := hD
    unfold fX1_greatestBundle_L4 at hf
    refine lv_iload_n hx hb dX1_greatestBundle_4 rfl (lv_at hl 2 rfl) ?_
    refine lv_aload_n hx hb dX1_greatestBundle_5 rfl (lv_at hl 0 rfl) ?_
    refine xg_X1_41 C hP dX1_greatestBundle_6 ?_
    refine lv_icmp_ge (tgt := 37) hx hb dX1_greatestBundle_9 (by decide) (fun c11 => ?_) (fun c11 => ?_)
    · replace hf := xsBr_t c11 hf
      have ez := hx3 _ (Option.some.inj hf).symm
      subst ez
      exact K3 y1 hk3 H locs ls hP hD hS (lv_sub hl [1] rfl)
    · replace hf := xsBr_f c11 hf
      refine lv_iload_n hx hb dX1_greatestBundle_12 rfl (lv_at hl 1 rfl) ?_
      refine lv_aload_n hx hb dX1_greatestBundle_13 rfl (lv_at hl 0 rfl) ?_
      refine xg_X1_21 C hP dX1_greatestBundle_14 ?_
      refine lv_aload_n hx hb dX1_greatestBundle_17 rfl (lv_at hl 0 rfl) ?_
      refine xg_X1_28 C hP dX1_greatestBundle_18 ?_
      refine lv_iload_n hx hb dX1_greatestBundle_21 rfl (lv_at hl 2 rfl) ?_
      replace hf := xsCk_use hf
      obtain ⟨h5, hf⟩ := hf
      refine xl_evEventOf C hP h5 dX1_greatestBundle_22 ?_
      replace hf := xsCk_use hf
      obtain ⟨h6, hf⟩ := hf
      refine xl_evBundle C hP h6 dX1_greatestBundle_23 ?_
      replace hf := xsBd_use hf
      obtain ⟨o7, h8, hf⟩ := hf
      refine xs_calli hS (xs_runS (As := [.int (evBundle (evEventOf y2.toNatClampNeg).toNatClampNeg)]) C (mJ6_bitCount_0f7a4 l  h8) w_695 w_608 w_128 w_609 hd_J6_bitCount_0f7a4 ⟨rfl, rfl, Nat.le_of_ble_eq_true rfl, Nat.le_of_ble_eq_true rfl, Nat.zero_le _, Nat.zero_le _⟩ hP hD hS hl.1 rfl (Nat.le_of_ble_eq_true rfl) dX1_greatestBundle_24) (fun H locs hP hD hS => ?_)
      refine va_mmax hx hb (C.2.2.1.trans hl.1.symm) C.2.2.2.1 (xs_kts C _ w_696) (xs_kts C _ w_697) (xs_kts C _ w_125) (xs_kts C _ w_698) (Nat.le_of_ble_eq_true rfl) (Nat.le_of_ble_eq_true rfl) (Nat.zero_le _) (Nat.zero_le _) dX1_greatestBundle_27 ?_
      refine lv_topi (fun x9 ex9 => ?_)
      replace hf := xsLt_use ex9 hf
      refine lv_istore_n (lv' := [(1, .int x9), (0, .ref (xsA X 11)), (2, .int y2)]) hx hb dX1_greatestBundle_30 rfl hl (by decide) rfl (fun ls hl => ?_)
      obtain ⟨x10, ex10⟩ : ∃ y : Int32, y = y2 + (1 : Int32) := ⟨_, rfl⟩
      replace hf := xsLt_use ex10 hf
      refine lv_iinc (v := x10) (lv' := [(2, .int x10), (1, .int x9), (0, .ref (xsA X 11))]) hx hb dX1_greatestBundle_31 hl (k := 2) rfl (by rw [ex10]; rfl) (by decide) rfl (fun ls hl => ?_)
      refine lv_goto (tgt := 4) hx hb dX1_greatestBundle_34 (by decide) ?_
      exact ih3 _ (Option.some.inj hf).symm hk3 H locs ls hP hD hS (lv_sub hl [2, 1, 0] rfl)
  exact L3 ((0 : Int32), (0 : Int32)) r3 hk30 hf H locs ls hP hD hS (lv_sub hl [2, 1, 0] rfl)
set_option maxRecDepth 100000 in
set_option maxHeartbeats 8000000 in
theorem mX1_greatestStatus (l : Launch) {X : xsX} {kIsKept kIsStale hiLatest hiSize scLength scFault scAt scNumber piSegmentsNow enKind enFromX enFromY enToX enToY tiMeetingPairs tiAlongPairs tiSize evSize evCrossings evSegmentsNow grEdges grQueued huSize huBestX huBestY : Int32} {scBytes scTold tiTouching tiLyingAlong evBundle evCrossingOf evEventOf evLeftEvent evRightEvent grDegree grFar grQueue huX huY : Nat → Int32} {enX enY enLower : Int64} {evX evY evLower : Nat → Int64} {S : Nat → xsV} {Rw : va_W} {out : Int32} (hf : fX1_greatestStatus evLeftEvent evRightEvent evSize evSegmentsNow = some out) : Met l yX1_greatestStatus (xsWs yX1_greatestStatus cX1_greatestStatus 3 (some .int)) { frames := 1, cells := 0, slots := 0, locals := 24 } (xsP X (wK X kIsKept kIsStale hiLatest hiSize scBytes scTold scLength scFault scAt scNumber piSegmentsNow enKind enX enY enLower enFromX enFromY enToX enToY tiTouching tiLyingAlong tiMeetingPairs tiAlongPairs tiSize evX evY evLower evBundle evCrossingOf evEventOf evLeftEvent evRightEvent evSize evCrossings evSegmentsNow grDegree grEdges grFar grQueue grQueued huX huY huSize huBestX huBestY S Rw) [.ref (xsA X 11)]) (xsQi X out (wK X kIsKept kIsStale hiLatest hiSize scBytes scTold scLength scFault scAt scNumber piSegmentsNow enKind enX enY enLower enFromX enFromY enToX enToY tiTouching tiLyingAlong tiMeetingPairs tiAlongPairs tiSize evX evY evLower evBundle evCrossingOf evEventOf evLeftEvent evRightEvent evSize evCrossings evSegmentsNow grDegree grEdges grFar grQueue grQueued huX huY huSize huBestX huBestY S Rw)) 0 0 (xsF X) := by
  refine xs_meth RX1 (by decide) rfl (Nat.le_of_ble_eq_true rfl) ?_
  intro p e s m below meth c ls H locs C hP hD hS hr hlk hl
  have hx := C.1
  have hb := C.2.1
  have hl : lv_has ls 3 [(0, .ref (xsA X 11))] := hl
  obtain ⟨Qq, hQq⟩ : ∃ Qq, Qq = xsQi X out (wK X kIsKept kIsStale hiLatest hiSize scBytes scTold scLength scFault scAt scNumber piSegmentsNow enKind enX enY enLower enFromX enFromY enToX enToY tiTouching tiLyingAlong tiMeetingPairs tiAlongPairs tiSize evX evY evLower evBundle evCrossingOf evEventOf evLeftEvent evRightEvent evSize evCrossings evSegmentsNow grDegree grEdges grFar grQueue grQueued huX huY huSize huBestX huBestY S Rw) := ⟨_, rfl⟩
  rw [← hQq]
  unfold fX1_greatestStatus at hf
  refine lv_iconst (v := (0 : Int32)) hx hb dX1_greatestStatus_0 (by decide) ?_
  refine lv_istore_n (lv' := [(1, .int (0 : Int32)), (0, .ref (xsA X 11))]) hx hb dX1_greatestStatus_1 rfl hl (by decide) rfl (fun ls hl => ?_)
  refine lv_iconst (v := (0 : Int32)) hx hb dX1_greatestStatus_2 (by decide) ?_
  refine lv_istore_n (lv' := [(2, .int (0 : Int32)), (1, .int (0 : Int32)), (0, .ref (xsA X 11))]) hx hb dX1_greatestStatus_3 rfl hl (by decide) rfl (fun ls hl => ?_)
  have K3 : ∀ (y4 : Int32) (hf : fX1_greatestStatus_J31 y4 = some out) (H : Heap) (locs : List Loc) (ls : Array Slot), va_P (xsD X) vwCl (wK X kIsKept kIsStale hiLatest hiSize scBytes scTold scLength scFault scAt scNumber piSegmentsNow enKind enX enY enLower enFromX enFromY enToX enToY tiTouching tiLyingAlong tiMeetingPairs tiAlongPairs tiSize evX evY evLower evBundle evCrossingOf evEventOf evLeftEvent evRightEvent evSize evCrossings evSegmentsNow grDegree grEdges grFar grQueue grQueued huX huY huSize huBestX huBestY S Rw) H → va_D (xsF X) (wK X kIsKept kIsStale hiLatest hiSize scBytes scTold scLength scFault scAt scNumber piSegmentsNow enKind enX enY enLower enFromX enFromY enToX enToY tiTouching tiLyingAlong tiMeetingPairs tiAlongPairs tiSize evX evY evLower evBundle evCrossingOf evEventOf evLeftEvent evRightEvent evSize evCrossings evSegmentsNow grDegree grEdges grFar grQueue grQueued huX huY huSize huBestX huBestY S Rw) → va_S (xsF X) s.heap H locs → lv_has ls 3 [(1, .int y4)] → W p l e { frames := 1, cells := 0, slots := 0, locals := 24 } s m ([.ref (xsA X 11)] : List Value).toArray below meth c H locs 0 0 (MQ below Qq ([.ref (xsA X 11)] : List Value).toArray s 0 0 (xsF X)) (F0 m 31 ls []) := by
    intro y4 hf H locs ls hP hD hS hl
    unfold fX1_greatestStatus_J31 at hf
    refine lv_iload_n hx hb dX1_greatestStatus_31 rfl (lv_at hl 0 rfl) ?_
    have ho := Option.some.inj hf
    subst ho
    rw [hQq]
    exact xs_iret C hr hlk hP hD hS dX1_greatestStatus_32
  replace hf := xsBd_use hf
  obtain ⟨r3, hk30, hf⟩ := hf
  have L3 : ∀ (sg : Int32 × Int32) (rg : Int32), xsWh (fun s3 => fX1_greatestStatus_L4 evLeftEvent evRightEvent evSize evSegmentsNow s3.1 s3.2) sg = some rg → (fX1_greatestStatus_J31 rg = some out → ∀ (H : Heap) (locs : List Loc) (ls : Array Slot), va_P (xsD X) vwCl (wK X kIsKept kIsStale hiLatest hiSize scBytes scTold scLength scFault scAt scNumber piSegmentsNow enKind enX enY enLower enFromX enFromY enToX enToY tiTouching tiLyingAlong tiMeetingPairs tiAlongPairs tiSize evX evY evLower evBundle evCrossingOf evEventOf evLeftEvent evRightEvent evSize evCrossings evSegmentsNow grDegree grEdges grFar grQueue grQueued huX huY huSize huBestX huBestY S Rw) H → va_D (xsF X) (wK X kIsKept kIsStale hiLatest hiSize scBytes scTold scLength scFault scAt scNumber piSegmentsNow enKind enX enY enLower enFromX enFromY enToX enToY tiTouching tiLyingAlong tiMeetingPairs tiAlongPairs tiSize evX evY evLower evBundle evCrossingOf evEventOf evLeftEvent evRightEvent evSize evCrossings evSegmentsNow grDegree grEdges grFar grQueue grQueued huX huY huSize huBestX huBestY S Rw) → va_S (xsF X) s.heap H locs → lv_has ls 3 [(0, .ref (xsA X 11)), (1, .int sg.1), (2, .int sg.2)] → W p l e { frames := 1, cells := 0, slots := 0, locals := 24 } s m ([.ref (xsA X 11)] : List Value).toArray below meth c H locs 0 0 (MQ below Qq ([.ref (xsA X 11)] : List Value).toArray s 0 0 (xsF X)) (F0 m 4 ls [])) := by
    refine xsWh_ind ?_
    intro sg r3 u3 hf ih3 hx3 hk3 H locs ls hP hD hS hl
    obtain ⟨y1, y2⟩ := sg
    replace hf : fX1_greatestStatus_L4 evLeftEvent evRightEvent evSize evSegmentsNow y1 y2 = some u3 := hf
    replace hl : lv_has ls 3 [(0, .ref (xsA X 11)), (1, .int y1), (2, .int y2)] := hl
    replace hP : va_P (xsD X) vwCl (wK X kIsKept kIsStale hiLatest hiSize scBytes scTold scLength scFault scAt scNumber piSegmentsNow enKind enX enY enLower enFromX enFromY enToX enToY tiTouching tiLyingAlong tiMeetingPairs tiAlongPairs tiSize evX evY evLower evBundle evCrossingOf evEventOf evLeftEvent evRightEvent evSize evCrossings evSegmentsNow grDegree grEdges grFar grQueue grQueued huX huY huSize huBestX huBestY S Rw) H := hP
    replace hD : va_D (xsF X) (wK X kIsKept kIsStale hiLatest hiSize scBytes scTold scLength scFault scAt scNumber piSegmentsNow enKind enX enY enLower enFromX enFromY enToX enToY tiTouching tiLyingAlong tiMeetingPairs tiAlongPairs tiSize evX evY evLower evBundle evCrossingOf evEventOf evLeftEvent evRightEvent evSize evCrossings evSegmentsNow grDegree grEdges grFar grQueue grQueued huX huY huSize huBestX huBestY S Rw) := hD
    unfold fX1_greatestStatus_L4 at hf
    refine lv_iload_n hx hb dX1_greatestStatus_4 rfl (lv_at hl 2 rfl) ?_
    refine lv_aload_n hx hb dX1_greatestStatus_5 rfl (lv_at hl 0 rfl) ?_
    refine xg_X1_37 C hP dX1_greatestStatus_6 ?_
    refine lv_icmp_ge (tgt := 31) hx hb dX1_greatestStatus_9 (by decide) (fun c11 => ?_) (fun c11 => ?_)
    · replace hf := xsBr_t c11 hf
      have ez := hx3 _ (Option.some.inj hf).symm
      subst ez
      exact K3 y1 hk3 H locs ls hP hD hS (lv_sub hl [1] rfl)
    · replace hf := xsBr_f c11 hf
      refine lv_iload_n hx hb dX1_greatestStatus_12 rfl (lv_at hl 1 rfl) ?_
      refine lv_aload_n hx hb dX1_greatestStatus_13 rfl (lv_at hl 0 rfl) ?_
      refine lv_iload_n hx hb dX1_greatestStatus_14 rfl (lv_at hl 2 rfl) ?_
      replace hf := xsBd_use hf
      obtain ⟨o5, h6, hf⟩ := hf
      refine xs_calli hS (xs_runV (As := [.int y2]) C (mX1_aliveBehind l  h6) w_707 w_634 w_635 w_112 w_636 hd_X1_aliveBehind ⟨rfl, rfl, Nat.le_of_ble_eq_true rfl, Nat.le_of_ble_eq_true rfl, Nat.zero_le _, Nat.zero_le _⟩ hP hD hS lk_X1 rfl hl.1 rfl (Nat.le_of_ble_eq_true rfl) dX1_greatestStatus_15) (fun H locs hP hD hS => ?_)
      replace hf := xsBd_use hf
      obtain ⟨o7, h8, hf⟩ := hf
      refine xs_calli hS (xs_runS (As := [.int o5]) C (mJ6_bitCount_0f7a4 l  h8) w_695 w_608 w_128 w_609 hd_J6_bitCount_0f7a4 ⟨rfl, rfl, Nat.le_of_ble_eq_true rfl, Nat.le_of_ble_eq_true rfl, Nat.zero_le _, Nat.zero_le _⟩ hP hD hS hl.1 rfl (Nat.le_of_ble_eq_true rfl) dX1_greatestStatus_18) (fun H locs hP hD hS => ?_)
      refine va_mmax hx hb (C.2.2.1.trans hl.1.symm) C.2.2.2.1 (xs_kts C _ w_696) (xs_kts C _ w_697) (xs_kts C _ w_125) (xs_kts C _ w_698) (Nat.le_of_ble_eq_true rfl) (Nat.le_of_ble_eq_true rfl) (Nat.zero_le _) (Nat.zero_le _) dX1_greatestStatus_21 ?_
      refine lv_topi (fun x9 ex9 => ?_)
      replace hf := xsLt_use ex9 hf
      refine lv_istore_n (lv' := [(1, .int x9), (0, .ref (xsA X 11)), (2, .int y2)]) hx hb dX1_greatestStatus_24 rfl hl (by decide) rfl (fun ls hl => ?_)
      obtain ⟨x10, ex10⟩ : ∃ y : Int32, y = y2 + (1 : Int32) := ⟨_, rfl⟩
      replace hf := xsLt_use ex10 hf
      refine lv_iinc (v := x10) (lv' := [(2, .int x10), (1, .int x9), (0, .ref (xsA X 11))]) hx hb dX1_greatestStatus_25 hl (k := 2) rfl (by rw [ex10]; rfl) (by decide) rfl (fun ls hl => ?_)
      refine lv_goto (tgt := 4) hx hb dX1_greatestStatus_28 (by decide) ?_
      exact ih3 _ (Option.some.inj hf).symm hk3 H locs ls hP hD hS (lv_sub hl [2, 1, 0] rfl)
  exact L3 ((0 : Int32), (0 : Int32)) r3 hk30 hf H locs ls hP hD hS (lv_sub hl [2, 1, 0] rfl)
set_option maxRecDepth 100000 in
set_option maxHeartbeats 8000000 in
theorem mX1_firstOfStatus (l : Launch) {X : xsX} {kIsKept kIsStale hiLatest hiSize scLength scFault scAt scNumber piSegmentsNow enKind enFromX enFromY enToX enToY tiMeetingPairs tiAlongPairs tiSize evSize evCrossings evSegmentsNow grEdges grQueued huSize huBestX huBestY : Int32} {scBytes scTold tiTouching tiLyingAlong evBundle evCrossingOf evEventOf evLeftEvent evRightEvent grDegree grFar grQueue huX huY : Nat → Int32} {enX enY enLower : Int64} {evX evY evLower : Nat → Int64} {S : Nat → xsV} {Rw : va_W} {a0 : Int32} {out : Int32} (hf : fX1_firstOfStatus evLeftEvent evRightEvent evSize evSegmentsNow a0 = some out) : Met l yX1_firstOfStatus (xsWs yX1_firstOfStatus cX1_firstOfStatus 3 (some .int)) { frames := 1, cells := 0, slots := 0, locals := 23 } (xsP X (wK X kIsKept kIsStale hiLatest hiSize scBytes scTold scLength scFault scAt scNumber piSegmentsNow enKind enX enY enLower enFromX enFromY enToX enToY tiTouching tiLyingAlong tiMeetingPairs tiAlongPairs tiSize evX evY evLower evBundle evCrossingOf evEventOf evLeftEvent evRightEvent evSize evCrossings evSegmentsNow grDegree grEdges grFar grQueue grQueued huX huY huSize huBestX huBestY S Rw) [.ref (xsA X 11), .int a0]) (xsQi X out (wK X kIsKept kIsStale hiLatest hiSize scBytes scTold scLength scFault scAt scNumber piSegmentsNow enKind enX enY enLower enFromX enFromY enToX enToY tiTouching tiLyingAlong tiMeetingPairs tiAlongPairs tiSize evX evY evLower evBundle evCrossingOf evEventOf evLeftEvent evRightEvent evSize evCrossings evSegmentsNow grDegree grEdges grFar grQueue grQueued huX huY huSize huBestX huBestY S Rw)) 0 0 (xsF X) := by
  refine xs_meth RX1 (by decide) rfl (Nat.le_of_ble_eq_true rfl) ?_
  intro p e s m below meth c ls H locs C hP hD hS hr hlk hl
  have hx := C.1
  have hb := C.2.1
  have hl : lv_has ls 3 [(0, .ref (xsA X 11)), (1, .int a0)] := hl
  obtain ⟨Qq, hQq⟩ : ∃ Qq, Qq = xsQi X out (wK X kIsKept kIsStale hiLatest hiSize scBytes scTold scLength scFault scAt scNumber piSegmentsNow enKind enX enY enLower enFromX enFromY enToX enToY tiTouching tiLyingAlong tiMeetingPairs tiAlongPairs tiSize evX evY evLower evBundle evCrossingOf evEventOf evLeftEvent evRightEvent evSize evCrossings evSegmentsNow grDegree grEdges grFar grQueue grQueued huX huY huSize huBestX huBestY S Rw) := ⟨_, rfl⟩
  rw [← hQq]
  unfold fX1_firstOfStatus at hf
  refine lv_iconst (v := (0 : Int32)) hx hb dX1_firstOfStatus_0 (by decide) ?_
  refine lv_istore_n (lv' := [(2, .int (0 : Int32)), (0, .ref (xsA X 11)), (1, .int a0)]) hx hb dX1_firstOfStatus_1 rfl hl (by decide) rfl (fun ls hl => ?_)
  have K2 : ∀ (hf : fX1_firstOfStatus_J30 = some out) (H : Heap) (locs : List Loc) (ls : Array Slot), va_P (xsD X) vwCl (wK X kIsKept kIsStale hiLatest hiSize scBytes scTold scLength scFault scAt scNumber piSegmentsNow enKind enX enY enLower enFromX enFromY enToX enToY tiTouching tiLyingAlong tiMeetingPairs tiAlongPairs tiSize evX evY evLower evBundle evCrossingOf evEventOf evLeftEvent evRightEvent evSize evCrossings evSegmentsNow grDegree grEdges grFar grQueue grQueued huX huY huSize huBestX huBestY S Rw) H → va_D (xsF X) (wK X kIsKept kIsStale hiLatest hiSize scBytes scTold scLength scFault scAt scNumber piSegmentsNow enKind enX enY enLower enFromX enFromY enToX enToY tiTouching tiLyingAlong tiMeetingPairs tiAlongPairs tiSize evX evY evLower evBundle evCrossingOf evEventOf evLeftEvent evRightEvent evSize evCrossings evSegmentsNow grDegree grEdges grFar grQueue grQueued huX huY huSize huBestX huBestY S Rw) → va_S (xsF X) s.heap H locs → lv_has ls 3 [] → W p l e { frames := 1, cells := 0, slots := 0, locals := 23 } s m ([.ref (xsA X 11), .int a0] : List Value).toArray below meth c H locs 0 0 (MQ below Qq ([.ref (xsA X 11), .int a0] : List Value).toArray s 0 0 (xsF X)) (F0 m 30 ls []) := by
    intro hf H locs ls hP hD hS hl
    unfold fX1_firstOfStatus_J30 at hf
    refine lv_iconst (v := (-1 : Int32)) hx hb dX1_firstOfStatus_30 (by decide) ?_
    have ho := Option.some.inj hf
    subst ho
    rw [hQq]
    exact xs_iret C hr hlk hP hD hS dX1_firstOfStatus_31
  replace hf := xsBd_use hf
  obtain ⟨r2, hk20, hf⟩ := hf
  have L2 : ∀ (sg : Int32) (rg : (Int32) ⊕ (Unit)), xsWh (fun s2 => fX1_firstOfStatus_L2 evLeftEvent evRightEvent evSize evSegmentsNow a0 s2) sg = some rg → (xsSm rg (fun v2 => fX1_firstOfStatus_J30) = some out → ∀ (H : Heap) (locs : List Loc) (ls : Array Slot), va_P (xsD X) vwCl (wK X kIsKept kIsStale hiLatest hiSize scBytes scTold scLength scFault scAt scNumber piSegmentsNow enKind enX enY enLower enFromX enFromY enToX enToY tiTouching tiLyingAlong tiMeetingPairs tiAlongPairs tiSize evX evY evLower evBundle evCrossingOf evEventOf evLeftEvent evRightEvent evSize evCrossings evSegmentsNow grDegree grEdges grFar grQueue grQueued huX huY huSize huBestX huBestY S Rw) H → va_D (xsF X) (wK X kIsKept kIsStale hiLatest hiSize scBytes scTold scLength scFault scAt scNumber piSegmentsNow enKind enX enY enLower enFromX enFromY enToX enToY tiTouching tiLyingAlong tiMeetingPairs tiAlongPairs tiSize evX evY evLower evBundle evCrossingOf evEventOf evLeftEvent evRightEvent evSize evCrossings evSegmentsNow grDegree grEdges grFar grQueue grQueued huX huY huSize huBestX huBestY S Rw) → va_S (xsF X) s.heap H locs → lv_has ls 3 [(0, .ref (xsA X 11)), (1, .int a0), (2, .int sg)] → W p l e { frames := 1, cells := 0, slots := 0, locals := 23 } s m ([.ref (xsA X 11), .int a0] : List Value).toArray below meth c H locs 0 0 (MQ below Qq ([.ref (xsA X 11), .int a0] : List Value).toArray s 0 0 (xsF X)) (F0 m 2 ls [])) := by
    refine xsWh_ind ?_
    intro sg r2 u2 hf ih2 hx2 hk2 H locs ls hP hD hS hl
    obtain ⟨y1, ey⟩ : ∃ z, z = sg := ⟨_, rfl⟩
    subst ey
    replace hf : fX1_firstOfStatus_L2 evLeftEvent evRightEvent evSize evSegmentsNow a0 y1 = some u2 := hf
    replace hl : lv_has ls 3 [(0, .ref (xsA X 11)), (1, .int a0), (2, .int y1)] := hl
    replace hP : va_P (xsD X) vwCl (wK X kIsKept kIsStale hiLatest hiSize scBytes scTold scLength scFault scAt scNumber piSegmentsNow enKind enX enY enLower enFromX enFromY enToX enToY tiTouching tiLyingAlong tiMeetingPairs tiAlongPairs tiSize evX evY evLower evBundle evCrossingOf evEventOf evLeftEvent evRightEvent evSize evCrossings evSegmentsNow grDegree grEdges grFar grQueue grQueued huX huY huSize huBestX huBestY S Rw) H := hP
    replace hD : va_D (xsF X) (wK X kIsKept kIsStale hiLatest hiSize scBytes scTold scLength scFault scAt scNumber piSegmentsNow enKind enX enY enLower enFromX enFromY enToX enToY tiTouching tiLyingAlong tiMeetingPairs tiAlongPairs tiSize evX evY evLower evBundle evCrossingOf evEventOf evLeftEvent evRightEvent evSize evCrossings evSegmentsNow grDegree grEdges grFar grQueue grQueued huX huY huSize huBestX huBestY S Rw) := hD
    unfold fX1_firstOfStatus_L2 at hf
    refine lv_iload_n hx hb dX1_firstOfStatus_2 rfl (lv_at hl 2 rfl) ?_
    refine lv_aload_n hx hb dX1_firstOfStatus_3 rfl (lv_at hl 0 rfl) ?_
    refine xg_X1_37 C hP dX1_firstOfStatus_4 ?_
    refine lv_icmp_ge (tgt := 30) hx hb dX1_firstOfStatus_7 (by decide) (fun c9 => ?_) (fun c9 => ?_)
    · replace hf := xsBr_t c9 hf
      have ez := hx2 _ (Option.some.inj hf).symm
      subst ez
      exact K2 hk2 H locs ls hP hD hS (lv_sub hl [] rfl)
    · replace hf := xsBr_f c9 hf
      refine lv_aload_n hx hb dX1_firstOfStatus_10 rfl (lv_at hl 0 rfl) ?_
      refine lv_iload_n hx hb dX1_firstOfStatus_11 rfl (lv_at hl 2 rfl) ?_
      replace hf := xsBd_use hf
      obtain ⟨o3, h4, hf⟩ := hf
      refine xs_calli hS (xs_runV (As := [.int y1]) C (mX1_aliveBehind l  h4) w_707 w_634 w_635 w_112 w_636 hd_X1_aliveBehind ⟨rfl, rfl, Nat.le_of_ble_eq_true rfl, Nat.le_of_ble_eq_true rfl, Nat.zero_le _, Nat.zero_le _⟩ hP hD hS lk_X1 rfl hl.1 rfl (Nat.le_of_ble_eq_true rfl) dX1_firstOfStatus_12) (fun H locs hP hD hS => ?_)
      replace hf := xsBd_use hf
      obtain ⟨o5, h6, hf⟩ := hf
      refine xs_calli hS (xs_runS (As := [.int o3]) C (mJ6_bitCount_0f7a4 l  h6) w_695 w_608 w_128 w_609 hd_J6_bitCount_0f7a4 ⟨rfl, rfl, Nat.le_of_ble_eq_true rfl, Nat.le_of_ble_eq_true rfl, Nat.zero_le _, Nat.zero_le _⟩ hP hD hS hl.1 rfl (Nat.le_of_ble_eq_true rfl) dX1_firstOfStatus_15) (fun H locs hP hD hS => ?_)
      refine lv_iload_n hx hb dX1_firstOfStatus_18 rfl (lv_at hl 1 rfl) ?_
      refine lv_icmp_ne (tgt := 24) hx hb dX1_firstOfStatus_19 (by decide) (fun c8 => ?_) (fun c8 => ?_)
      · replace hf := xsBr_f c8 hf
        obtain ⟨x7, ex7⟩ : ∃ y : Int32, y = y1 + (1 : Int32) := ⟨_, rfl⟩
        replace hf := xsLt_use ex7 hf
        refine lv_iinc (v := x7) (lv' := [(2, .int x7), (0, .ref (xsA X 11)), (1, .int a0)]) hx hb dX1_firstOfStatus_24 hl (k := 2) rfl (by rw [ex7]; rfl) (by decide) rfl (fun ls hl => ?_)
        refine lv_goto (tgt := 2) hx hb dX1_firstOfStatus_27 (by decide) ?_
        exact ih2 _ (Option.some.inj hf).symm hk2 H locs ls hP hD hS (lv_sub hl [1, 2, 0] rfl)
      · replace hf := xsBr_t c8 hf
        refine lv_iload_n hx hb dX1_firstOfStatus_22 rfl (lv_at hl 2 rfl) ?_
        have ez := hx2 _ (Option.some.inj hf).symm
        subst ez
        have hf := hk2
        have ho := Option.some.inj hf
        subst ho
        rw [hQq]
        exact xs_iret C hr hlk hP hD hS dX1_firstOfStatus_23
  exact L2 (0 : Int32) r2 hk20 hf H locs ls hP hD hS (lv_sub hl [1, 2, 0] rfl)
set_option maxRecDepth 100000 in
set_option maxHeartbeats 8000000 in
theorem mX2_drawPieces (l : Launch) {X : xsX} {kIsKept kIsStale hiLatest hiSize scLength scFault scAt scNumber piSegmentsNow enKind enFromX enFromY enToX enToY tiMeetingPairs tiAlongPairs tiSize evSize evCrossings evSegmentsNow grEdges grQueued huSize huBestX huBestY : Int32} {scBytes scTold tiTouching tiLyingAlong evBundle evCrossingOf evEventOf evLeftEvent evRightEvent grDegree grFar grQueue huX huY : Nat → Int32} {enX enY enLower : Int64} {evX evY evLower : Nat → Int64} {S : Nat → xsV} {Rw : va_W} {a1 : Int32} {out : (Nat → Int32) × Int32} (hf : fX2_drawPieces evBundle evLeftEvent evRightEvent evSize grDegree grEdges a1 = some out) : Met l yX2_drawPieces (xsWs yX2_drawPieces cX2_drawPieces 6 none) { frames := 1, cells := 0, slots := 0, locals := 21 } (xsP X (wK X kIsKept kIsStale hiLatest hiSize scBytes scTold scLength scFault scAt scNumber piSegmentsNow enKind enX enY enLower enFromX enFromY enToX enToY tiTouching tiLyingAlong tiMeetingPairs tiAlongPairs tiSize evX evY evLower evBundle evCrossingOf evEventOf evLeftEvent evRightEvent evSize evCrossings evSegmentsNow grDegree grEdges grFar grQueue grQueued huX huY huSize huBestX huBestY S Rw) [.ref (xsA X 20), .ref (xsA X 11), .int a1]) (xsQv X (wK X kIsKept kIsStale hiLatest hiSize scBytes scTold scLength scFault scAt scNumber piSegmentsNow enKind enX enY enLower enFromX enFromY enToX enToY tiTouching tiLyingAlong tiMeetingPairs tiAlongPairs tiSize evX evY evLower evBundle evCrossingOf evEventOf evLeftEvent evRightEvent evSize evCrossings evSegmentsNow out.1 out.2 grFar grQueue grQueued huX huY huSize huBestX huBestY S Rw)) 0 0 (xsF X) := by
  refine xs_meth RX2 (by decide) rfl (Nat.le_of_ble_eq_true rfl) ?_
  intro p e s m below meth c ls H locs C hP hD hS hr hlk hl
  have hx := C.1
  have hb := C.2.1
  have hl : lv_has ls 6 [(0, .ref (xsA X 20)), (1, .ref (xsA X 11)), (2, .int a1)] := hl
  obtain ⟨Qq, hQq⟩ : ∃ Qq, Qq = xsQv X (wK X kIsKept kIsStale hiLatest hiSize scBytes scTold scLength scFault scAt scNumber piSegmentsNow enKind enX enY enLower enFromX enFromY enToX enToY tiTouching tiLyingAlong tiMeetingPairs tiAlongPairs tiSize evX evY evLower evBundle evCrossingOf evEventOf evLeftEvent evRightEvent evSize evCrossings evSegmentsNow out.1 out.2 grFar grQueue grQueued huX huY huSize huBestX huBestY S Rw) := ⟨_, rfl⟩
  rw [← hQq]
  unfold fX2_drawPieces at hf
  refine lv_iconst (v := (1 : Int32)) hx hb dX2_drawPieces_0 (by decide) ?_
  refine lv_iload_n hx hb dX2_drawPieces_1 rfl (lv_at hl 2 rfl) ?_
  refine lv_ishl hx hb dX2_drawPieces_2 ?_
  refine lv_iconst (v := (1 : Int32)) hx hb dX2_drawPieces_3 (by decide) ?_
  refine lv_isub hx hb dX2_drawPieces_4 ?_
  refine lv_topi (fun x1 ex1 => ?_)
  replace hf := xsLt_use ex1 hf
  refine lv_istore_n (lv' := [(3, .int x1), (0, .ref (xsA X 20)), (1, .ref (xsA X 11)), (2, .int a1)]) hx hb dX2_drawPieces_5 rfl hl (by decide) rfl (fun ls hl => ?_)
  refine lv_aload_n hx hb dX2_drawPieces_6 rfl (lv_at hl 2 rfl) ?_
  refine xg_X2_37 C hP dX2_drawPieces_7 ?_
  refine lv_iload_n hx hb dX2_drawPieces_10 rfl (lv_at hl 3 rfl) ?_
  replace hf := xsCk_use hf
  obtain ⟨h2, hf⟩ := hf
  refine xl_evLeftEvent C hP h2 dX2_drawPieces_11 ?_
  refine lv_topi (fun x3 ex3 => ?_)
  replace hf := xsLt_use ex3 hf
  refine lv_istore (lv' := [(4, .int x3), (3, .int x1), (0, .ref (xsA X 20)), (1, .ref (xsA X 11)), (2, .int a1)]) hx hb dX2_drawPieces_12 hl (by decide) rfl (fun ls hl => ?_)
  refine lv_iload hx hb dX2_drawPieces_14 (lv_at hl 0 rfl) ?_
  refine lv_iconst (v := (1 : Int32)) hx hb dX2_drawPieces_16 (by decide) ?_
  refine lv_iadd hx hb dX2_drawPieces_17 ?_
  refine lv_topi (fun x4 ex4 => ?_)
  replace hf := xsLt_use ex4 hf
  refine lv_istore (lv' := [(5, .int x4), (4, .int x3), (3, .int x1), (0, .ref (xsA X 20)), (1, .ref (xsA X 11)), (2, .int a1)]) hx hb dX2_drawPieces_18 hl (by decide) rfl (fun ls hl => ?_)
  have K9 : ∀ (y10 : Nat → Int32) (y11 : Int32) (hf : fX2_drawPieces_J119 y10 y11 = some out) (H : Heap) (locs : List Loc) (ls : Array Slot), va_P (xsD X) vwCl (wK X kIsKept kIsStale hiLatest hiSize scBytes scTold scLength scFault scAt scNumber piSegmentsNow enKind enX enY enLower enFromX enFromY enToX enToY tiTouching tiLyingAlong tiMeetingPairs tiAlongPairs tiSize evX evY evLower evBundle evCrossingOf evEventOf evLeftEvent evRightEvent evSize evCrossings evSegmentsNow y10 y11 grFar grQueue grQueued huX huY huSize huBestX huBestY S Rw) H → va_D (xsF X) (wK X kIsKept kIsStale hiLatest hiSize scBytes scTold scLength scFault scAt scNumber piSegmentsNow enKind enX enY enLower enFromX enFromY enToX enToY tiTouching tiLyingAlong tiMeetingPairs tiAlongPairs tiSize evX evY evLower evBundle evCrossingOf evEventOf evLeftEvent evRightEvent evSize evCrossings evSegmentsNow y10 y11 grFar grQueue grQueued huX huY huSize huBestX huBestY S Rw) → va_S (xsF X) s.heap H locs → lv_has ls 6 [] → W p l e { frames := 1, cells := 0, slots := 0, locals := 21 } s m ([.ref (xsA X 20), .ref (xsA X 11), .int a1] : List Value).toArray below meth c H locs 0 0 (MQ below Qq ([.ref (xsA X 20), .ref (xsA X 11), .int a1] : List Value).toArray s 0 0 (xsF X)) (F0 m 119 ls []) := by
    intro y10 y11 hf H locs ls hP hD hS hl
    unfold fX2_drawPieces_J119 at hf
    have ho := Option.some.inj hf
    subst ho
    rw [hQq]
    exact xs_vret C hr hlk hP hD hS dX2_drawPieces_119
  replace hf := xsBd_use hf
  obtain ⟨r9, hk90, hf⟩ := hf
  have L9 : ∀ (sg : Int32 × Int32 × (Nat → Int32) × Int32) (rg : (Nat → Int32) × Int32), xsWh (fun s9 => fX2_drawPieces_L20 evBundle evRightEvent evSize a1 x1 s9.1 s9.2.1 s9.2.2.1 s9.2.2.2) sg = some rg → (fX2_drawPieces_J119 rg.1 rg.2 = some out → ∀ (H : Heap) (locs : List Loc) (ls : Array Slot), va_P (xsD X) vwCl (wK X kIsKept kIsStale hiLatest hiSize scBytes scTold scLength scFault scAt scNumber piSegmentsNow enKind enX enY enLower enFromX enFromY enToX enToY tiTouching tiLyingAlong tiMeetingPairs tiAlongPairs tiSize evX evY evLower evBundle evCrossingOf evEventOf evLeftEvent evRightEvent evSize evCrossings evSegmentsNow sg.2.2.1 sg.2.2.2 grFar grQueue grQueued huX huY huSize huBestX huBestY S Rw) H → va_D (xsF X) (wK X kIsKept kIsStale hiLatest hiSize scBytes scTold scLength scFault scAt scNumber piSegmentsNow enKind enX enY enLower enFromX enFromY enToX enToY tiTouching tiLyingAlong tiMeetingPairs tiAlongPairs tiSize evX evY evLower evBundle evCrossingOf evEventOf evLeftEvent evRightEvent evSize evCrossings evSegmentsNow sg.2.2.1 sg.2.2.2 grFar grQueue grQueued huX huY huSize huBestX huBestY S Rw) → va_S (xsF X) s.heap H locs → lv_has ls 6 [(0, .ref (xsA X 20)), (1, .ref (xsA X 11)), (2, .int a1), (3, .int x1), (4, .int sg.1), (5, .int sg.2.1)] → W p l e { frames := 1, cells := 0, slots := 0, locals := 21 } s m ([.ref (xsA X 20), .ref (xsA X 11), .int a1] : List Value).toArray below meth c H locs 0 0 (MQ below Qq ([.ref (xsA X 20), .ref (xsA X 11), .int a1] : List Value).toArray s 0 0 (xsF X)) (F0 m 20 ls [])) := by
    refine xsWh_ind ?_
    intro sg r9 u9 hf ih9 hx9 hk9 H locs ls hP hD hS hl
    obtain ⟨y5, y6, y7, y8⟩ := sg
    replace hf : fX2_drawPieces_L20 evBundle evRightEvent evSize a1 x1 y5 y6 y7 y8 = some u9 := hf
    replace hl : lv_has ls 6 [(0, .ref (xsA X 20)), (1, .ref (xsA X 11)), (2, .int a1), (3, .int x1), (4, .int y5), (5, .int y6)] := hl
    replace hP : va_P (xsD X) vwCl (wK X kIsKept kIsStale hiLatest hiSize scBytes scTold scLength scFault scAt scNumber piSegmentsNow enKind enX enY enLower enFromX enFromY enToX enToY tiTouching tiLyingAlong tiMeetingPairs tiAlongPairs tiSize evX evY evLower evBundle evCrossingOf evEventOf evLeftEvent evRightEvent evSize evCrossings evSegmentsNow y7 y8 grFar grQueue grQueued huX huY huSize huBestX huBestY S Rw) H := hP
    replace hD : va_D (xsF X) (wK X kIsKept kIsStale hiLatest hiSize scBytes scTold scLength scFault scAt scNumber piSegmentsNow enKind enX enY enLower enFromX enFromY enToX enToY tiTouching tiLyingAlong tiMeetingPairs tiAlongPairs tiSize evX evY evLower evBundle evCrossingOf evEventOf evLeftEvent evRightEvent evSize evCrossings evSegmentsNow y7 y8 grFar grQueue grQueued huX huY huSize huBestX huBestY S Rw) := hD
    unfold fX2_drawPieces_L20 at hf
    refine lv_iload hx hb dX2_drawPieces_20 (lv_at hl 5 rfl) ?_
    refine lv_aload_n hx hb dX2_drawPieces_22 rfl (lv_at hl 1 rfl) ?_
    refine xg_X2_40 C hP dX2_drawPieces_23 ?_
    refine lv_iload_n hx hb dX2_drawPieces_26 rfl (lv_at hl 2 rfl) ?_
    replace hf := xsCk_use hf
    obtain ⟨h12, hf⟩ := hf
    refine xl_evRightEvent C hP h12 dX2_drawPieces_27 ?_
    refine lv_icmp_gt (tgt := 119) hx hb dX2_drawPieces_28 (by decide) (fun c40 => ?_) (fun c40 => ?_)
    · replace hf := xsBr_t c40 hf
      have ez := hx9 _ (Option.some.inj hf).symm
      subst ez
      exact K9 y7 y8 hk9 H locs ls hP hD hS (lv_sub hl [] rfl)
    · replace hf := xsBr_f c40 hf
      refine lv_iload hx hb dX2_drawPieces_31 (lv_at hl 5 rfl) ?_
      refine lv_aload_n hx hb dX2_drawPieces_33 rfl (lv_at hl 1 rfl) ?_
      refine xg_X2_28 C hP dX2_drawPieces_34 ?_
      refine lv_icmp_ge (tgt := 119) hx hb dX2_drawPieces_37 (by decide) (fun c39 => ?_) (fun c39 => ?_)
      · replace hf := xsBr_t c39 hf
        have ez := hx9 _ (Option.some.inj hf).symm
        subst ez
        exact K9 y7 y8 hk9 H locs ls hP hD hS (lv_sub hl [] rfl)
      · replace hf := xsBr_f c39 hf
        refine lv_aload_n hx hb dX2_drawPieces_40 rfl (lv_at hl 1 rfl) ?_
        refine xg_X2_43 C hP dX2_drawPieces_41 ?_
        refine lv_iload hx hb dX2_drawPieces_44 (lv_at hl 5 rfl) ?_
        replace hf := xsCk_use hf
        obtain ⟨h13, hf⟩ := hf
        refine xl_evBundle C hP h13 dX2_drawPieces_46 ?_
        refine lv_iload_n hx hb dX2_drawPieces_47 rfl (lv_at hl 2 rfl) ?_
        replace hf := xsBd_use hf
        obtain ⟨o14, h15, hf⟩ := hf
        refine xs_calli hS (xs_runSN (As := [.int (evBundle y6.toNatClampNeg), .int a1]) C (mX10_has l  h15) C.2.2.2.2.2.2.2.1.2.1 w_605 w_105 w_606 hd_X10_has ⟨rfl, rfl, Nat.le_of_ble_eq_true rfl, Nat.le_of_ble_eq_true rfl, Nat.zero_le _, Nat.zero_le _⟩ hP hD hS hl.1 rfl (Nat.le_of_ble_eq_true rfl) dX2_drawPieces_48) (fun H locs hP hD hS => ?_)
        have K22 : ∀ (y16 : Int32) (y17 : Nat → Int32) (y18 : Int32) (hf : fX2_drawPieces_J113 y6 y16 y17 y18 = some u9) (H : Heap) (locs : List Loc) (ls : Array Slot), va_P (xsD X) vwCl (wK X kIsKept kIsStale hiLatest hiSize scBytes scTold scLength scFault scAt scNumber piSegmentsNow enKind enX enY enLower enFromX enFromY enToX enToY tiTouching tiLyingAlong tiMeetingPairs tiAlongPairs tiSize evX evY evLower evBundle evCrossingOf evEventOf evLeftEvent evRightEvent evSize evCrossings evSegmentsNow y17 y18 grFar grQueue grQueued huX huY huSize huBestX huBestY S Rw) H → va_D (xsF X) (wK X kIsKept kIsStale hiLatest hiSize scBytes scTold scLength scFault scAt scNumber piSegmentsNow enKind enX enY enLower enFromX enFromY enToX enToY tiTouching tiLyingAlong tiMeetingPairs tiAlongPairs tiSize evX evY evLower evBundle evCrossingOf evEventOf evLeftEvent evRightEvent evSize evCrossings evSegmentsNow y17 y18 grFar grQueue grQueued huX huY huSize huBestX huBestY S Rw) → va_S (xsF X) s.heap H locs → lv_has ls 6 [(0, .ref (xsA X 20)), (1, .ref (xsA X 11)), (2, .int a1), (3, .int x1), (4, .int y16), (5, .int y6)] → W p l e { frames := 1, cells := 0, slots := 0, locals := 21 } s m ([.ref (xsA X 20), .ref (xsA X 11), .int a1] : List Value).toArray below meth c H locs 0 0 (MQ below Qq ([.ref (xsA X 20), .ref (xsA X 11), .int a1] : List Value).toArray s 0 0 (xsF X)) (F0 m 113 ls []) := by
          intro y16 y17 y18 hf H locs ls hP hD hS hl
          unfold fX2_drawPieces_J113 at hf
          obtain ⟨x19, ex19⟩ : ∃ y : Int32, y = y6 + (1 : Int32) := ⟨_, rfl⟩
          replace hf := xsLt_use ex19 hf
          refine lv_iinc (v := x19) (lv' := [(5, .int x19), (0, .ref (xsA X 20)), (1, .ref (xsA X 11)), (2, .int a1), (3, .int x1), (4, .int y16)]) hx hb dX2_drawPieces_113 hl (k := 5) rfl (by rw [ex19]; rfl) (by decide) rfl (fun ls hl => ?_)
          refine lv_goto (tgt := 20) hx hb dX2_drawPieces_116 (by decide) ?_
          exact ih9 _ (Option.some.inj hf).symm hk9 H locs ls hP hD hS (lv_sub hl [1, 2, 3, 4, 5, 0] rfl)
        replace hf := xsBd_use hf
        obtain ⟨v20, hf, hk21⟩ := hf
        refine lv_if_ne (tgt := 57) hx hb dX2_drawPieces_51 (by decide) (fun c38 => ?_) (fun c38 => ?_)
        · replace hf := xsBr_f c38 hf
          refine lv_aload_n hx hb dX2_drawPieces_57 rfl (lv_at hl 1 rfl) ?_
          refine xg_X2_43 C hP dX2_drawPieces_58 ?_
          refine lv_iload hx hb dX2_drawPieces_61 (lv_at hl 4 rfl) ?_
          replace hf := xsCk_use hf
          obtain ⟨h23, hf⟩ := hf
          refine xl_evBundle C hP h23 dX2_drawPieces_63 ?_
          refine lv_aload_n hx hb dX2_drawPieces_64 rfl (lv_at hl 1 rfl) ?_
          refine xg_X2_43 C hP dX2_drawPieces_65 ?_
          refine lv_iload hx hb dX2_drawPieces_68 (lv_at hl 5 rfl) ?_
          replace hf := xsCk_use hf
          obtain ⟨h24, hf⟩ := hf
          refine xl_evBundle C hP h24 dX2_drawPieces_70 ?_
          refine lv_iand hx hb dX2_drawPieces_71 ?_
          refine lv_iload_n hx hb dX2_drawPieces_72 rfl (lv_at hl 3 rfl) ?_
          refine lv_iand hx hb dX2_drawPieces_73 ?_
          have K29 : ∀ (y25 : Nat → Int32) (y26 : Int32) (hf : fX2_drawPieces_J109 y6 y25 y26 = some v20) (H : Heap) (locs : List Loc) (ls : Array Slot), va_P (xsD X) vwCl (wK X kIsKept kIsStale hiLatest hiSize scBytes scTold scLength scFault scAt scNumber piSegmentsNow enKind enX enY enLower enFromX enFromY enToX enToY tiTouching tiLyingAlong tiMeetingPairs tiAlongPairs tiSize evX evY evLower evBundle evCrossingOf evEventOf evLeftEvent evRightEvent evSize evCrossings evSegmentsNow y25 y26 grFar grQueue grQueued huX huY huSize huBestX huBestY S Rw) H → va_D (xsF X) (wK X kIsKept kIsStale hiLatest hiSize scBytes scTold scLength scFault scAt scNumber piSegmentsNow enKind enX enY enLower enFromX enFromY enToX enToY tiTouching tiLyingAlong tiMeetingPairs tiAlongPairs tiSize evX evY evLower evBundle evCrossingOf evEventOf evLeftEvent evRightEvent evSize evCrossings evSegmentsNow y25 y26 grFar grQueue grQueued huX huY huSize huBestX huBestY S Rw) → va_S (xsF X) s.heap H locs → lv_has ls 6 [(0, .ref (xsA X 20)), (1, .ref (xsA X 11)), (2, .int a1), (3, .int x1), (5, .int y6)] → W p l e { frames := 1, cells := 0, slots := 0, locals := 21 } s m ([.ref (xsA X 20), .ref (xsA X 11), .int a1] : List Value).toArray below meth c H locs 0 0 (MQ below Qq ([.ref (xsA X 20), .ref (xsA X 11), .int a1] : List Value).toArray s 0 0 (xsF X)) (F0 m 109 ls []) := by
            intro y25 y26 hf H locs ls hP hD hS hl
            unfold fX2_drawPieces_J109 at hf
            refine lv_iload hx hb dX2_drawPieces_109 (lv_at hl 4 rfl) ?_
            refine lv_istore (lv' := [(4, .int y6), (0, .ref (xsA X 20)), (1, .ref (xsA X 11)), (2, .int a1), (3, .int x1), (5, .int y6)]) hx hb dX2_drawPieces_111 hl (by decide) rfl (fun ls hl => ?_)
            have ev := Option.some.inj hf
            subst ev
            exact K22 y6 y25 y26 hk21 H locs ls hP hD hS (lv_sub hl [1, 2, 3, 4, 0, 5] rfl)
          replace hf := xsBd_use hf
          obtain ⟨v27, hf, hk28⟩ := hf
          refine lv_if_ne (tgt := 109) hx hb dX2_drawPieces_74 (by decide) (fun c37 => ?_) (fun c37 => ?_)
          · replace hf := xsBr_f c37 hf
            have ev := Option.some.inj hf
            subst ev
            exact K29 y7 y8 hk28 H locs ls hP hD hS (lv_sub hl [0, 1, 2, 3, 5] rfl)
          · replace hf := xsBr_t c37 hf
            refine lv_aload_n hx hb dX2_drawPieces_77 rfl (lv_at hl 0 rfl) ?_
            refine lv_dup hx hb dX2_drawPieces_78 rfl ?_
            refine xg_X2_21 C hP dX2_drawPieces_79 ?_
            refine lv_iconst (v := (1 : Int32)) hx hb dX2_drawPieces_82 (by decide) ?_
            refine lv_iadd hx hb dX2_drawPieces_83 ?_
            refine lv_topi (fun x30 ex30 => ?_)
            replace hf := xsLt_use ex30 hf
            refine xp_X2_21 C hP hD hS dX2_drawPieces_84 (fun H locs hP hD hS => ?_)
            refine lv_aload_n hx hb dX2_drawPieces_87 rfl (lv_at hl 0 rfl) ?_
            refine xg_X2_9 C hP dX2_drawPieces_88 ?_
            refine lv_iload hx hb dX2_drawPieces_91 (lv_at hl 4 rfl) ?_
            refine lv_dup2_11 hx hb dX2_drawPieces_93 rfl rfl ?_
            replace hf := xsCk_use hf
            obtain ⟨h31, hf⟩ := hf
            refine xl_grDegree C hP h31 dX2_drawPieces_94 ?_
            refine lv_iconst (v := (1 : Int32)) hx hb dX2_drawPieces_95 (by decide) ?_
            refine lv_iadd hx hb dX2_drawPieces_96 ?_
            replace hf := xsCk_use hf
            obtain ⟨h32, hf⟩ := hf
            refine xs_grDegree C hP hD hS h32 dX2_drawPieces_97 (fun f33 ef33 H locs hP hD hS => ?_)
            replace hf := xsLt_use ef33 hf
            refine lv_aload_n hx hb dX2_drawPieces_98 rfl (lv_at hl 0 rfl) ?_
            refine xg_X2_9 C hP dX2_drawPieces_99 ?_
            refine lv_iload hx hb dX2_drawPieces_102 (lv_at hl 5 rfl) ?_
            refine lv_dup2_11 hx hb dX2_drawPieces_104 rfl rfl ?_
            replace hf := xsCk_use hf
            obtain ⟨h34, hf⟩ := hf
            refine xl_grDegree C hP h34 dX2_drawPieces_105 ?_
            refine lv_iconst (v := (1 : Int32)) hx hb dX2_drawPieces_106 (by decide) ?_
            refine lv_iadd hx hb dX2_drawPieces_107 ?_
            replace hf := xsCk_use hf
            obtain ⟨h35, hf⟩ := hf
            refine xs_grDegree C hP hD hS h35 dX2_drawPieces_108 (fun f36 ef36 H locs hP hD hS => ?_)
            replace hf := xsLt_use ef36 hf
            have ev := Option.some.inj hf
            subst ev
            exact K29 f36 x30 hk28 H locs ls hP hD hS (lv_sub hl [0, 1, 2, 3, 5] rfl)
        · replace hf := xsBr_t c38 hf
          refine lv_goto (tgt := 113) hx hb dX2_drawPieces_54 (by decide) ?_
          have ev := Option.some.inj hf
          subst ev
          exact K22 y5 y7 y8 hk21 H locs ls hP hD hS (lv_sub hl [0, 1, 2, 3, 4, 5] rfl)
  exact L9 (x3, x4, grDegree, grEdges) r9 hk90 hf H locs ls hP hD hS (lv_sub hl [3, 4, 5, 2, 1, 0] rfl)
set_option maxRecDepth 100000 in
set_option maxHeartbeats 8000000 in
theorem mX2_draw (l : Launch) {X : xsX} {kIsKept kIsStale hiLatest hiSize scLength scFault scAt scNumber piSegmentsNow enKind enFromX enFromY enToX enToY tiMeetingPairs tiAlongPairs tiSize evSize evCrossings evSegmentsNow grEdges grQueued huSize huBestX huBestY : Int32} {scBytes scTold tiTouching tiLyingAlong evBundle evCrossingOf evEventOf evLeftEvent evRightEvent grDegree grFar grQueue huX huY : Nat → Int32} {enX enY enLower : Int64} {evX evY evLower : Nat → Int64} {S : Nat → xsV} {Rw : va_W} {a1 : Int32} {out : (Nat → Int32) × Int32} (hf : fX2_draw evBundle evLeftEvent evRightEvent evSize grDegree grEdges a1 = some out) : Met l yX2_draw (xsWs yX2_draw cX2_draw 4 none) { frames := 2, cells := 0, slots := 0, locals := 46 } (xsP X (wK X kIsKept kIsStale hiLatest hiSize scBytes scTold scLength scFault scAt scNumber piSegmentsNow enKind enX enY enLower enFromX enFromY enToX enToY tiTouching tiLyingAlong tiMeetingPairs tiAlongPairs tiSize evX evY evLower evBundle evCrossingOf evEventOf evLeftEvent evRightEvent evSize evCrossings evSegmentsNow grDegree grEdges grFar grQueue grQueued huX huY huSize huBestX huBestY S Rw) [.ref (xsA X 20), .ref (xsA X 11), .int a1]) (xsQv X (wK X kIsKept kIsStale hiLatest hiSize scBytes scTold scLength scFault scAt scNumber piSegmentsNow enKind enX enY enLower enFromX enFromY enToX enToY tiTouching tiLyingAlong tiMeetingPairs tiAlongPairs tiSize evX evY evLower evBundle evCrossingOf evEventOf evLeftEvent evRightEvent evSize evCrossings evSegmentsNow out.1 out.2 grFar grQueue grQueued huX huY huSize huBestX huBestY S Rw)) 0 0 (xsF X) := by
  refine xs_meth RX2 (by decide) rfl (Nat.le_of_ble_eq_true rfl) ?_
  intro p e s m below meth c ls H locs C hP hD hS hr hlk hl
  have hx := C.1
  have hb := C.2.1
  have hl : lv_has ls 4 [(0, .ref (xsA X 20)), (1, .ref (xsA X 11)), (2, .int a1)] := hl
  obtain ⟨Qq, hQq⟩ : ∃ Qq, Qq = xsQv X (wK X kIsKept kIsStale hiLatest hiSize scBytes scTold scLength scFault scAt scNumber piSegmentsNow enKind enX enY enLower enFromX enFromY enToX enToY tiTouching tiLyingAlong tiMeetingPairs tiAlongPairs tiSize evX evY evLower evBundle evCrossingOf evEventOf evLeftEvent evRightEvent evSize evCrossings evSegmentsNow out.1 out.2 grFar grQueue grQueued huX huY huSize huBestX huBestY S Rw) := ⟨_, rfl⟩
  rw [← hQq]
  unfold fX2_draw at hf
  refine lv_aload_n hx hb dX2_draw_0 rfl (lv_at hl 0 rfl) ?_
  refine lv_iconst (v := (0 : Int32)) hx hb dX2_draw_1 (by decide) ?_
  refine xp_X2_21 C hP hD hS dX2_draw_2 (fun H locs hP hD hS => ?_)
  refine lv_iconst (v := (0 : Int32)) hx hb dX2_draw_5 (by decide) ?_
  refine lv_istore_n (lv' := [(3, .int (0 : Int32)), (0, .ref (xsA X 20)), (1, .ref (xsA X 11)), (2, .int a1)]) hx hb dX2_draw_6 rfl hl (by decide) rfl (fun ls hl => ?_)
  have K3 : ∀ (y4 : Nat → Int32) (hf : fX2_draw_J28 evBundle evLeftEvent evRightEvent evSize a1 y4 = some out) (H : Heap) (locs : List Loc) (ls : Array Slot), va_P (xsD X) vwCl (wK X kIsKept kIsStale hiLatest hiSize scBytes scTold scLength scFault scAt scNumber piSegmentsNow enKind enX enY enLower enFromX enFromY enToX enToY tiTouching tiLyingAlong tiMeetingPairs tiAlongPairs tiSize evX evY evLower evBundle evCrossingOf evEventOf evLeftEvent evRightEvent evSize evCrossings evSegmentsNow y4 (0 : Int32) grFar grQueue grQueued huX huY huSize huBestX huBestY S Rw) H → va_D (xsF X) (wK X kIsKept kIsStale hiLatest hiSize scBytes scTold scLength scFault scAt scNumber piSegmentsNow enKind enX enY enLower enFromX enFromY enToX enToY tiTouching tiLyingAlong tiMeetingPairs tiAlongPairs tiSize evX evY evLower evBundle evCrossingOf evEventOf evLeftEvent evRightEvent evSize evCrossings evSegmentsNow y4 (0 : Int32) grFar grQueue grQueued huX huY huSize huBestX huBestY S Rw) → va_S (xsF X) s.heap H locs → lv_has ls 4 [(0, .ref (xsA X 20)), (1, .ref (xsA X 11)), (2, .int a1)] → W p l e { frames := 2, cells := 0, slots := 0, locals := 46 } s m ([.ref (xsA X 20), .ref (xsA X 11), .int a1] : List Value).toArray below meth c H locs 0 0 (MQ below Qq ([.ref (xsA X 20), .ref (xsA X 11), .int a1] : List Value).toArray s 0 0 (xsF X)) (F0 m 28 ls []) := by
    intro y4 hf H locs ls hP hD hS hl
    unfold fX2_draw_J28 at hf
    refine lv_iconst (v := (0 : Int32)) hx hb dX2_draw_28 (by decide) ?_
    refine lv_istore_n (lv' := [(3, .int (0 : Int32)), (0, .ref (xsA X 20)), (1, .ref (xsA X 11)), (2, .int a1)]) hx hb dX2_draw_29 rfl hl (by decide) rfl (fun ls hl => ?_)
    have K8 : ∀ (y9 : Nat → Int32) (y10 : Int32) (hf : fX2_draw_J47 y9 y10 = some out) (H : Heap) (locs : List Loc) (ls : Array Slot), va_P (xsD X) vwCl (wK X kIsKept kIsStale hiLatest hiSize scBytes scTold scLength scFault scAt scNumber piSegmentsNow enKind enX enY enLower enFromX enFromY enToX enToY tiTouching tiLyingAlong tiMeetingPairs tiAlongPairs tiSize evX evY evLower evBundle evCrossingOf evEventOf evLeftEvent evRightEvent evSize evCrossings evSegmentsNow y9 y10 grFar grQueue grQueued huX huY huSize huBestX huBestY S Rw) H → va_D (xsF X) (wK X kIsKept kIsStale hiLatest hiSize scBytes scTold scLength scFault scAt scNumber piSegmentsNow enKind enX enY enLower enFromX enFromY enToX enToY tiTouching tiLyingAlong tiMeetingPairs tiAlongPairs tiSize evX evY evLower evBundle evCrossingOf evEventOf evLeftEvent evRightEvent evSize evCrossings evSegmentsNow y9 y10 grFar grQueue grQueued huX huY huSize huBestX huBestY S Rw) → va_S (xsF X) s.heap H locs → lv_has ls 4 [] → W p l e { frames := 2, cells := 0, slots := 0, locals := 46 } s m ([.ref (xsA X 20), .ref (xsA X 11), .int a1] : List Value).toArray below meth c H locs 0 0 (MQ below Qq ([.ref (xsA X 20), .ref (xsA X 11), .int a1] : List Value).toArray s 0 0 (xsF X)) (F0 m 47 ls []) := by
      intro y9 y10 hf H locs ls hP hD hS hl
      unfold fX2_draw_J47 at hf
      have ho := Option.some.inj hf
      subst ho
      rw [hQq]
      exact xs_vret C hr hlk hP hD hS dX2_draw_47
    replace hf := xsBd_use hf
    obtain ⟨r8, hk80, hf⟩ := hf
    have L8 : ∀ (sg : Int32 × (Nat → Int32) × Int32) (rg : (Nat → Int32) × Int32), xsWh (fun s8 => fX2_draw_L30 evBundle evLeftEvent evRightEvent evSize a1 s8.1 s8.2.1 s8.2.2) sg = some rg → (fX2_draw_J47 rg.1 rg.2 = some out → ∀ (H : Heap) (locs : List Loc) (ls : Array Slot), va_P (xsD X) vwCl (wK X kIsKept kIsStale hiLatest hiSize scBytes scTold scLength scFault scAt scNumber piSegmentsNow enKind enX enY enLower enFromX enFromY enToX enToY tiTouching tiLyingAlong tiMeetingPairs tiAlongPairs tiSize evX evY evLower evBundle evCrossingOf evEventOf evLeftEvent evRightEvent evSize evCrossings evSegmentsNow sg.2.1 sg.2.2 grFar grQueue grQueued huX huY huSize huBestX huBestY S Rw) H → va_D (xsF X) (wK X kIsKept kIsStale hiLatest hiSize scBytes scTold scLength scFault scAt scNumber piSegmentsNow enKind enX enY enLower enFromX enFromY enToX enToY tiTouching tiLyingAlong tiMeetingPairs tiAlongPairs tiSize evX evY evLower evBundle evCrossingOf evEventOf evLeftEvent evRightEvent evSize evCrossings evSegmentsNow sg.2.1 sg.2.2 grFar grQueue grQueued huX huY huSize huBestX huBestY S Rw) → va_S (xsF X) s.heap H locs → lv_has ls 4 [(0, .ref (xsA X 20)), (1, .ref (xsA X 11)), (2, .int a1), (3, .int sg.1)] → W p l e { frames := 2, cells := 0, slots := 0, locals := 46 } s m ([.ref (xsA X 20), .ref (xsA X 11), .int a1] : List Value).toArray below meth c H locs 0 0 (MQ below Qq ([.ref (xsA X 20), .ref (xsA X 11), .int a1] : List Value).toArray s 0 0 (xsF X)) (F0 m 30 ls [])) := by
      refine xsWh_ind ?_
      intro sg r8 u8 hf ih8 hx8 hk8 H locs ls hP hD hS hl
      obtain ⟨y5, y6, y7⟩ := sg
      replace hf : fX2_draw_L30 evBundle evLeftEvent evRightEvent evSize a1 y5 y6 y7 = some u8 := hf
      replace hl : lv_has ls 4 [(0, .ref (xsA X 20)), (1, .ref (xsA X 11)), (2, .int a1), (3, .int y5)] := hl
      replace hP : va_P (xsD X) vwCl (wK X kIsKept kIsStale hiLatest hiSize scBytes scTold scLength scFault scAt scNumber piSegmentsNow enKind enX enY enLower enFromX enFromY enToX enToY tiTouching tiLyingAlong tiMeetingPairs tiAlongPairs tiSize evX evY evLower evBundle evCrossingOf evEventOf evLeftEvent evRightEvent evSize evCrossings evSegmentsNow y6 y7 grFar grQueue grQueued huX huY huSize huBestX huBestY S Rw) H := hP
      replace hD : va_D (xsF X) (wK X kIsKept kIsStale hiLatest hiSize scBytes scTold scLength scFault scAt scNumber piSegmentsNow enKind enX enY enLower enFromX enFromY enToX enToY tiTouching tiLyingAlong tiMeetingPairs tiAlongPairs tiSize evX evY evLower evBundle evCrossingOf evEventOf evLeftEvent evRightEvent evSize evCrossings evSegmentsNow y6 y7 grFar grQueue grQueued huX huY huSize huBestX huBestY S Rw) := hD
      unfold fX2_draw_L30 at hf
      refine lv_iload_n hx hb dX2_draw_30 rfl (lv_at hl 3 rfl) ?_
      refine lv_iload_n hx hb dX2_draw_31 rfl (lv_at hl 2 rfl) ?_
      refine lv_icmp_ge (tgt := 47) hx hb dX2_draw_32 (by decide) (fun c14 => ?_) (fun c14 => ?_)
      · replace hf := xsBr_t c14 hf
        have ez := hx8 _ (Option.some.inj hf).symm
        subst ez
        exact K8 y6 y7 hk8 H locs ls hP hD hS (lv_sub hl [] rfl)
      · replace hf := xsBr_f c14 hf
        refine lv_aload_n hx hb dX2_draw_35 rfl (lv_at hl 0 rfl) ?_
        refine lv_aload_n hx hb dX2_draw_36 rfl (lv_at hl 1 rfl) ?_
        refine lv_iload_n hx hb dX2_draw_37 rfl (lv_at hl 3 rfl) ?_
        replace hf := xsBd_use hf
        obtain ⟨o11, h12, hf⟩ := hf
        refine xs_callv hS (xs_runV (As := [.ref (xsA X 11), .int y5]) C (mX2_drawPieces l  h12) w_617 w_619 w_7 w_113 w_620 hd_X2_drawPieces ⟨rfl, rfl, Nat.le_of_ble_eq_true rfl, Nat.le_of_ble_eq_true rfl, Nat.zero_le _, Nat.zero_le _⟩ hP hD hS lk_X2 rfl hl.1 rfl (Nat.le_of_ble_eq_true rfl) dX2_draw_38) (fun H locs hP hD hS => ?_)
        obtain ⟨x13, ex13⟩ : ∃ y : Int32, y = y5 + (1 : Int32) := ⟨_, rfl⟩
        replace hf := xsLt_use ex13 hf
        refine lv_iinc (v := x13) (lv' := [(3, .int x13), (0, .ref (xsA X 20)), (1, .ref (xsA X 11)), (2, .int a1)]) hx hb dX2_draw_41 hl (k := 3) rfl (by rw [ex13]; rfl) (by decide) rfl (fun ls hl => ?_)
        refine lv_goto (tgt := 30) hx hb dX2_draw_44 (by decide) ?_
        exact ih8 _ (Option.some.inj hf).symm hk8 H locs ls hP hD hS (lv_sub hl [1, 2, 3, 0] rfl)
    exact L8 ((0 : Int32), y4, (0 : Int32)) r8 hk80 hf H locs ls hP hD hS (lv_sub hl [1, 2, 3, 0] rfl)
  replace hf := xsBd_use hf
  obtain ⟨r3, hk30, hf⟩ := hf
  have L3 : ∀ (sg : Int32 × (Nat → Int32)) (rg : (Nat → Int32)), xsWh (fun s3 => fX2_draw_L7 evSize s3.1 s3.2) sg = some rg → (fX2_draw_J28 evBundle evLeftEvent evRightEvent evSize a1 rg = some out → ∀ (H : Heap) (locs : List Loc) (ls : Array Slot), va_P (xsD X) vwCl (wK X kIsKept kIsStale hiLatest hiSize scBytes scTold scLength scFault scAt scNumber piSegmentsNow enKind enX enY enLower enFromX enFromY enToX enToY tiTouching tiLyingAlong tiMeetingPairs tiAlongPairs tiSize evX evY evLower evBundle evCrossingOf evEventOf evLeftEvent evRightEvent evSize evCrossings evSegmentsNow sg.2 (0 : Int32) grFar grQueue grQueued huX huY huSize huBestX huBestY S Rw) H → va_D (xsF X) (wK X kIsKept kIsStale hiLatest hiSize scBytes scTold scLength scFault scAt scNumber piSegmentsNow enKind enX enY enLower enFromX enFromY enToX enToY tiTouching tiLyingAlong tiMeetingPairs tiAlongPairs tiSize evX evY evLower evBundle evCrossingOf evEventOf evLeftEvent evRightEvent evSize evCrossings evSegmentsNow sg.2 (0 : Int32) grFar grQueue grQueued huX huY huSize huBestX huBestY S Rw) → va_S (xsF X) s.heap H locs → lv_has ls 4 [(0, .ref (xsA X 20)), (1, .ref (xsA X 11)), (2, .int a1), (3, .int sg.1)] → W p l e { frames := 2, cells := 0, slots := 0, locals := 46 } s m ([.ref (xsA X 20), .ref (xsA X 11), .int a1] : List Value).toArray below meth c H locs 0 0 (MQ below Qq ([.ref (xsA X 20), .ref (xsA X 11), .int a1] : List Value).toArray s 0 0 (xsF X)) (F0 m 7 ls [])) := by
    refine xsWh_ind ?_
    intro sg r3 u3 hf ih3 hx3 hk3 H locs ls hP hD hS hl
    obtain ⟨y1, y2⟩ := sg
    replace hf : fX2_draw_L7 evSize y1 y2 = some u3 := hf
    replace hl : lv_has ls 4 [(0, .ref (xsA X 20)), (1, .ref (xsA X 11)), (2, .int a1), (3, .int y1)] := hl
    replace hP : va_P (xsD X) vwCl (wK X kIsKept kIsStale hiLatest hiSize scBytes scTold scLength scFault scAt scNumber piSegmentsNow enKind enX enY enLower enFromX enFromY enToX enToY tiTouching tiLyingAlong tiMeetingPairs tiAlongPairs tiSize evX evY evLower evBundle evCrossingOf evEventOf evLeftEvent evRightEvent evSize evCrossings evSegmentsNow y2 (0 : Int32) grFar grQueue grQueued huX huY huSize huBestX huBestY S Rw) H := hP
    replace hD : va_D (xsF X) (wK X kIsKept kIsStale hiLatest hiSize scBytes scTold scLength scFault scAt scNumber piSegmentsNow enKind enX enY enLower enFromX enFromY enToX enToY tiTouching tiLyingAlong tiMeetingPairs tiAlongPairs tiSize evX evY evLower evBundle evCrossingOf evEventOf evLeftEvent evRightEvent evSize evCrossings evSegmentsNow y2 (0 : Int32) grFar grQueue grQueued huX huY huSize huBestX huBestY S Rw) := hD
    unfold fX2_draw_L7 at hf
    refine lv_iload_n hx hb dX2_draw_7 rfl (lv_at hl 3 rfl) ?_
    refine lv_aload_n hx hb dX2_draw_8 rfl (lv_at hl 1 rfl) ?_
    refine xg_X2_28 C hP dX2_draw_9 ?_
    refine lv_icmp_ge (tgt := 28) hx hb dX2_draw_12 (by decide) (fun c18 => ?_) (fun c18 => ?_)
    · replace hf := xsBr_t c18 hf
      have ez := hx3 _ (Option.some.inj hf).symm
      subst ez
      exact K3 y2 hk3 H locs ls hP hD hS (lv_sub hl [0, 1, 2] rfl)
    · replace hf := xsBr_f c18 hf
      refine lv_aload_n hx hb dX2_draw_15 rfl (lv_at hl 0 rfl) ?_
      refine xg_X2_9 C hP dX2_draw_16 ?_
      refine lv_iload_n hx hb dX2_draw_19 rfl (lv_at hl 3 rfl) ?_
      refine lv_iconst (v := (0 : Int32)) hx hb dX2_draw_20 (by decide) ?_
      replace hf := xsCk_use hf
      obtain ⟨h15, hf⟩ := hf
      refine xs_grDegree C hP hD hS h15 dX2_draw_21 (fun f16 ef16 H locs hP hD hS => ?_)
      replace hf := xsLt_use ef16 hf
      obtain ⟨x17, ex17⟩ : ∃ y : Int32, y = y1 + (1 : Int32) := ⟨_, rfl⟩
      replace hf := xsLt_use ex17 hf
      refine lv_iinc (v := x17) (lv' := [(3, .int x17), (0, .ref (xsA X 20)), (1, .ref (xsA X 11)), (2, .int a1)]) hx hb dX2_draw_22 hl (k := 3) rfl (by rw [ex17]; rfl) (by decide) rfl (fun ls hl => ?_)
      refine lv_goto (tgt := 7) hx hb dX2_draw_25 (by decide) ?_
      exact ih3 _ (Option.some.inj hf).symm hk3 H locs ls hP hD hS (lv_sub hl [1, 2, 3, 0] rfl)
  exact L3 ((0 : Int32), grDegree) r3 hk30 hf H locs ls hP hD hS (lv_sub hl [1, 2, 3, 0] rfl)
set_option maxRecDepth 100000 in
set_option maxHeartbeats 8000000 in
theorem mX2_oddDegrees (l : Launch) {X : xsX} {kIsKept kIsStale hiLatest hiSize scLength scFault scAt scNumber piSegmentsNow enKind enFromX enFromY enToX enToY tiMeetingPairs tiAlongPairs tiSize evSize evCrossings evSegmentsNow grEdges grQueued huSize huBestX huBestY : Int32} {scBytes scTold tiTouching tiLyingAlong evBundle evCrossingOf evEventOf evLeftEvent evRightEvent grDegree grFar grQueue huX huY : Nat → Int32} {enX enY enLower : Int64} {evX evY evLower : Nat → Int64} {S : Nat → xsV} {Rw : va_W} {a0 : Int32} {out : Int32} (hf : fX2_oddDegrees grDegree a0 = some out) : Met l yX2_oddDegrees (xsWs yX2_oddDegrees cX2_oddDegrees 4 (some .int)) { frames := 0, cells := 0, slots := 0, locals := 0 } (xsP X (wK X kIsKept kIsStale hiLatest hiSize scBytes scTold scLength scFault scAt scNumber piSegmentsNow enKind enX enY enLower enFromX enFromY enToX enToY tiTouching tiLyingAlong tiMeetingPairs tiAlongPairs tiSize evX evY evLower evBundle evCrossingOf evEventOf evLeftEvent evRightEvent evSize evCrossings evSegmentsNow grDegree grEdges grFar grQueue grQueued huX huY huSize huBestX huBestY S Rw) [.ref (xsA X 20), .int a0]) (xsQi X out (wK X kIsKept kIsStale hiLatest hiSize scBytes scTold scLength scFault scAt scNumber piSegmentsNow enKind enX enY enLower enFromX enFromY enToX enToY tiTouching tiLyingAlong tiMeetingPairs tiAlongPairs tiSize evX evY evLower evBundle evCrossingOf evEventOf evLeftEvent evRightEvent evSize evCrossings evSegmentsNow grDegree grEdges grFar grQueue grQueued huX huY huSize huBestX huBestY S Rw)) 0 0 (xsF X) := by
  refine xs_meth RX2 (by decide) rfl (Nat.le_of_ble_eq_true rfl) ?_
  intro p e s m below meth c ls H locs C hP hD hS hr hlk hl
  have hx := C.1
  have hb := C.2.1
  have hl : lv_has ls 4 [(0, .ref (xsA X 20)), (1, .int a0)] := hl
  obtain ⟨Qq, hQq⟩ : ∃ Qq, Qq = xsQi X out (wK X kIsKept kIsStale hiLatest hiSize scBytes scTold scLength scFault scAt scNumber piSegmentsNow enKind enX enY enLower enFromX enFromY enToX enToY tiTouching tiLyingAlong tiMeetingPairs tiAlongPairs tiSize evX evY evLower evBundle evCrossingOf evEventOf evLeftEvent evRightEvent evSize evCrossings evSegmentsNow grDegree grEdges grFar grQueue grQueued huX huY huSize huBestX huBestY S Rw) := ⟨_, rfl⟩
  rw [← hQq]
  unfold fX2_oddDegrees at hf
  refine lv_iconst (v := (0 : Int32)) hx hb dX2_oddDegrees_0 (by decide) ?_
  refine lv_istore_n (lv' := [(2, .int (0 : Int32)), (0, .ref (xsA X 20)), (1, .int a0)]) hx hb dX2_oddDegrees_1 rfl hl (by decide) rfl (fun ls hl => ?_)
  refine lv_iconst (v := (0 : Int32)) hx hb dX2_oddDegrees_2 (by decide) ?_
  refine lv_istore_n (lv' := [(3, .int (0 : Int32)), (2, .int (0 : Int32)), (0, .ref (xsA X 20)), (1, .int a0)]) hx hb dX2_oddDegrees_3 rfl hl (by decide) rfl (fun ls hl => ?_)
  have K3 : ∀ (y4 : Int32) (hf : fX2_oddDegrees_J26 y4 = some out) (H : Heap) (locs : List Loc) (ls : Array Slot), va_P (xsD X) vwCl (wK X kIsKept kIsStale hiLatest hiSize scBytes scTold scLength scFault scAt scNumber piSegmentsNow enKind enX enY enLower enFromX enFromY enToX enToY tiTouching tiLyingAlong tiMeetingPairs tiAlongPairs tiSize evX evY evLower evBundle evCrossingOf evEventOf evLeftEvent evRightEvent evSize evCrossings evSegmentsNow grDegree grEdges grFar grQueue grQueued huX huY huSize huBestX huBestY S Rw) H → va_D (xsF X) (wK X kIsKept kIsStale hiLatest hiSize scBytes scTold scLength scFault scAt scNumber piSegmentsNow enKind enX enY enLower enFromX enFromY enToX enToY tiTouching tiLyingAlong tiMeetingPairs tiAlongPairs tiSize evX evY evLower evBundle evCrossingOf evEventOf evLeftEvent evRightEvent evSize evCrossings evSegmentsNow grDegree grEdges grFar grQueue grQueued huX huY huSize huBestX huBestY S Rw) → va_S (xsF X) s.heap H locs → lv_has ls 4 [(2, .int y4)] → W p l e { frames := 0, cells := 0, slots := 0, locals := 0 } s m ([.ref (xsA X 20), .int a0] : List Value).toArray below meth c H locs 0 0 (MQ below Qq ([.ref (xsA X 20), .int a0] : List Value).toArray s 0 0 (xsF X)) (F0 m 26 ls []) := by
    intro y4 hf H locs ls hP hD hS hl
    unfold fX2_oddDegrees_J26 at hf
    refine lv_iload_n hx hb dX2_oddDegrees_26 rfl (lv_at hl 0 rfl) ?_
    have ho := Option.some.inj hf
    subst ho
    rw [hQq]
    exact xs_iret C hr hlk hP hD hS dX2_oddDegrees_27
  replace hf := xsBd_use hf
  obtain ⟨r3, hk30, hf⟩ := hf
  have L3 : ∀ (sg : Int32 × Int32) (rg : Int32), xsWh (fun s3 => fX2_oddDegrees_L4 grDegree a0 s3.1 s3.2) sg = some rg → (fX2_oddDegrees_J26 rg = some out → ∀ (H : Heap) (locs : List Loc) (ls : Array Slot), va_P (xsD X) vwCl (wK X kIsKept kIsStale hiLatest hiSize scBytes scTold scLength scFault scAt scNumber piSegmentsNow enKind enX enY enLower enFromX enFromY enToX enToY tiTouching tiLyingAlong tiMeetingPairs tiAlongPairs tiSize evX evY evLower evBundle evCrossingOf evEventOf evLeftEvent evRightEvent evSize evCrossings evSegmentsNow grDegree grEdges grFar grQueue grQueued huX huY huSize huBestX huBestY S Rw) H → va_D (xsF X) (wK X kIsKept kIsStale hiLatest hiSize scBytes scTold scLength scFault scAt scNumber piSegmentsNow enKind enX enY enLower enFromX enFromY enToX enToY tiTouching tiLyingAlong tiMeetingPairs tiAlongPairs tiSize evX evY evLower evBundle evCrossingOf evEventOf evLeftEvent evRightEvent evSize evCrossings evSegmentsNow grDegree grEdges grFar grQueue grQueued huX huY huSize huBestX huBestY S Rw) → va_S (xsF X) s.heap H locs → lv_has ls 4 [(0, .ref (xsA X 20)), (1, .int a0), (2, .int sg.1), (3, .int sg.2)] → W p l e { frames := 0, cells := 0, slots := 0, locals := 0 } s m ([.ref (xsA X 20), .int a0] : List Value).toArray below meth c H locs 0 0 (MQ below Qq ([.ref (xsA X 20), .int a0] : List Value).toArray s 0 0 (xsF X)) (F0 m 4 ls [])) := by
    refine xsWh_ind ?_
    intro sg r3 u3 hf ih3 hx3 hk3 H locs ls hP hD hS hl
    obtain ⟨y1, y2⟩ := sg
    replace hf : fX2_oddDegrees_L4 grDegree a0 y1 y2 = some u3 := hf
    replace hl : lv_has ls 4 [(0, .ref (xsA X 20)), (1, .int a0), (2, .int y1), (3, .int y2)] := hl
    replace hP : va_P (xsD X) vwCl (wK X kIsKept kIsStale hiLatest hiSize scBytes scTold scLength scFault scAt scNumber piSegmentsNow enKind enX enY enLower enFromX enFromY enToX enToY tiTouching tiLyingAlong tiMeetingPairs tiAlongPairs tiSize evX evY evLower evBundle evCrossingOf evEventOf evLeftEvent evRightEvent evSize evCrossings evSegmentsNow grDegree grEdges grFar grQueue grQueued huX huY huSize huBestX huBestY S Rw) H := hP
    replace hD : va_D (xsF X) (wK X kIsKept kIsStale hiLatest hiSize scBytes scTold scLength scFault scAt scNumber piSegmentsNow enKind enX enY enLower enFromX enFromY enToX enToY tiTouching tiLyingAlong tiMeetingPairs tiAlongPairs tiSize evX evY evLower evBundle evCrossingOf evEventOf evLeftEvent evRightEvent evSize evCrossings evSegmentsNow grDegree grEdges grFar grQueue grQueued huX huY huSize huBestX huBestY S Rw) := hD
    unfold fX2_oddDegrees_L4 at hf
    refine lv_iload_n hx hb dX2_oddDegrees_4 rfl (lv_at hl 3 rfl) ?_
    refine lv_iload_n hx hb dX2_oddDegrees_5 rfl (lv_at hl 1 rfl) ?_
    refine lv_icmp_ge (tgt := 26) hx hb dX2_oddDegrees_6 (by decide) (fun c8 => ?_) (fun c8 => ?_)
    · replace hf := xsBr_t c8 hf
      have ez := hx3 _ (Option.some.inj hf).symm
      subst ez
      exact K3 y1 hk3 H locs ls hP hD hS (lv_sub hl [2] rfl)
    · replace hf := xsBr_f c8 hf
      refine lv_iload_n hx hb dX2_oddDegrees_9 rfl (lv_at hl 2 rfl) ?_
      refine lv_aload_n hx hb dX2_oddDegrees_10 rfl (lv_at hl 0 rfl) ?_
      refine xg_X2_9 C hP dX2_oddDegrees_11 ?_
      refine lv_iload_n hx hb dX2_oddDegrees_14 rfl (lv_at hl 3 rfl) ?_
      replace hf := xsCk_use hf
      obtain ⟨h5, hf⟩ := hf
      refine xl_grDegree C hP h5 dX2_oddDegrees_15 ?_
      refine lv_iconst (v := (1 : Int32)) hx hb dX2_oddDegrees_16 (by decide) ?_
      refine lv_iand hx hb dX2_oddDegrees_17 ?_
      refine lv_iadd hx hb dX2_oddDegrees_18 ?_
      refine lv_topi (fun x6 ex6 => ?_)
      replace hf := xsLt_use ex6 hf
      refine lv_istore_n (lv' := [(2, .int x6), (0, .ref (xsA X 20)), (1, .int a0), (3, .int y2)]) hx hb dX2_oddDegrees_19 rfl hl (by decide) rfl (fun ls hl => ?_)
      obtain ⟨x7, ex7⟩ : ∃ y : Int32, y = y2 + (1 : Int32) := ⟨_, rfl⟩
      replace hf := xsLt_use ex7 hf
      refine lv_iinc (v := x7) (lv' := [(3, .int x7), (2, .int x6), (0, .ref (xsA X 20)), (1, .int a0)]) hx hb dX2_oddDegrees_20 hl (k := 3) rfl (by rw [ex7]; rfl) (by decide) rfl (fun ls hl => ?_)
      refine lv_goto (tgt := 4) hx hb dX2_oddDegrees_23 (by decide) ?_
      exact ih3 _ (Option.some.inj hf).symm hk3 H locs ls hP hD hS (lv_sub hl [2, 3, 1, 0] rfl)
  exact L3 ((0 : Int32), (0 : Int32)) r3 hk30 hf H locs ls hP hD hS (lv_sub hl [2, 3, 1, 0] rfl)
set_option maxRecDepth 100000 in
set_option maxHeartbeats 8000000 in
theorem mX2_reach (l : Launch) {X : xsX} {kIsKept kIsStale hiLatest hiSize scLength scFault scAt scNumber piSegmentsNow enKind enFromX enFromY enToX enToY tiMeetingPairs tiAlongPairs tiSize evSize evCrossings evSegmentsNow grEdges grQueued huSize huBestX huBestY : Int32} {scBytes scTold tiTouching tiLyingAlong evBundle evCrossingOf evEventOf evLeftEvent evRightEvent grDegree grFar grQueue huX huY : Nat → Int32} {enX enY enLower : Int64} {evX evY evLower : Nat → Int64} {S : Nat → xsV} {Rw : va_W} {a0 : Int32} {a1 : Int32} {out : (Nat → Int32) × (Nat → Int32) × Int32} (hf : fX2_reach grFar grQueue grQueued a0 a1 = some out) : Met l yX2_reach (xsWs yX2_reach cX2_reach 3 none) { frames := 0, cells := 0, slots := 0, locals := 0 } (xsP X (wK X kIsKept kIsStale hiLatest hiSize scBytes scTold scLength scFault scAt scNumber piSegmentsNow enKind enX enY enLower enFromX enFromY enToX enToY tiTouching tiLyingAlong tiMeetingPairs tiAlongPairs tiSize evX evY evLower evBundle evCrossingOf evEventOf evLeftEvent evRightEvent evSize evCrossings evSegmentsNow grDegree grEdges grFar grQueue grQueued huX huY huSize huBestX huBestY S Rw) [.ref (xsA X 20), .int a0, .int a1]) (xsQv X (wK X kIsKept kIsStale hiLatest hiSize scBytes scTold scLength scFault scAt scNumber piSegmentsNow enKind enX enY enLower enFromX enFromY enToX enToY tiTouching tiLyingAlong tiMeetingPairs tiAlongPairs tiSize evX evY evLower evBundle evCrossingOf evEventOf evLeftEvent evRightEvent evSize evCrossings evSegmentsNow grDegree grEdges out.1 out.2.1 out.2.2 huX huY huSize huBestX huBestY S Rw)) 0 0 (xsF X) := by
  refine xs_meth RX2 (by decide) rfl (Nat.le_of_ble_eq_true rfl) ?_
  intro p e s m below meth c ls H locs C hP hD hS hr hlk hl
  have hx := C.1
  have hb := C.2.1
  have hl : lv_has ls 3 [(0, .ref (xsA X 20)), (1, .int a0), (2, .int a1)] := hl
  obtain ⟨Qq, hQq⟩ : ∃ Qq, Qq = xsQv X (wK X kIsKept kIsStale hiLatest hiSize scBytes scTold scLength scFault scAt scNumber piSegmentsNow enKind enX enY enLower enFromX enFromY enToX enToY tiTouching tiLyingAlong tiMeetingPairs tiAlongPairs tiSize evX evY evLower evBundle evCrossingOf evEventOf evLeftEvent evRightEvent evSize evCrossings evSegmentsNow grDegree grEdges out.1 out.2.1 out.2.2 huX huY huSize huBestX huBestY S Rw) := ⟨_, rfl⟩
  rw [← hQq]
  unfold fX2_reach at hf
  refine lv_aload_n hx hb dX2_reach_0 rfl (lv_at hl 0 rfl) ?_
  refine xg_X2_15 C hP dX2_reach_1 ?_
  refine lv_iload_n hx hb dX2_reach_4 rfl (lv_at hl 1 rfl) ?_
  replace hf := xsCk_use hf
  obtain ⟨h1, hf⟩ := hf
  refine xl_grFar C hP h1 dX2_reach_5 ?_
  refine lv_iconst (v := (-1 : Int32)) hx hb dX2_reach_6 (by decide) ?_
  refine lv_icmp_ne (tgt := 47) hx hb dX2_reach_7 (by decide) (fun c8 => ?_) (fun c8 => ?_)
  · replace hf := xsBr_f c8 hf
    have ho := Option.some.inj hf
    subst ho
    rw [hQq]
    exact xs_vret C hr hlk hP hD hS dX2_reach_47
  · replace hf := xsBr_t c8 hf
    refine lv_aload_n hx hb dX2_reach_10 rfl (lv_at hl 0 rfl) ?_
    refine xg_X2_25 C hP dX2_reach_11 ?_
    refine lv_sipush (v := (324 : Int32)) hx hb dX2_reach_14 (by decide) ?_
    refine lv_icmp_ge (tgt := 47) hx hb dX2_reach_17 (by decide) (fun c7 => ?_) (fun c7 => ?_)
    · replace hf := xsBr_t c7 hf
      have ho := Option.some.inj hf
      subst ho
      rw [hQq]
      exact xs_vret C hr hlk hP hD hS dX2_reach_47
    · replace hf := xsBr_f c7 hf
      refine lv_aload_n hx hb dX2_reach_20 rfl (lv_at hl 0 rfl) ?_
      refine xg_X2_15 C hP dX2_reach_21 ?_
      refine lv_iload_n hx hb dX2_reach_24 rfl (lv_at hl 1 rfl) ?_
      refine lv_iload_n hx hb dX2_reach_25 rfl (lv_at hl 2 rfl) ?_
      replace hf := xsCk_use hf
      obtain ⟨h2, hf⟩ := hf
      refine xs_grFar C hP hD hS h2 dX2_reach_26 (fun f3 ef3 H locs hP hD hS => ?_)
      replace hf := xsLt_use ef3 hf
      refine lv_aload_n hx hb dX2_reach_27 rfl (lv_at hl 0 rfl) ?_
      refine xg_X2_18 C hP dX2_reach_28 ?_
      refine lv_aload_n hx hb dX2_reach_31 rfl (lv_at hl 0 rfl) ?_
      refine xg_X2_25 C hP dX2_reach_32 ?_
      refine lv_iload_n hx hb dX2_reach_35 rfl (lv_at hl 1 rfl) ?_
      replace hf := xsCk_use hf
      obtain ⟨h4, hf⟩ := hf
      refine xs_grQueue C hP hD hS h4 dX2_reach_36 (fun f5 ef5 H locs hP hD hS => ?_)
      replace hf := xsLt_use ef5 hf
      refine lv_aload_n hx hb dX2_reach_37 rfl (lv_at hl 0 rfl) ?_
      refine lv_dup hx hb dX2_reach_38 rfl ?_
      refine xg_X2_25 C hP dX2_reach_39 ?_
      refine lv_iconst (v := (1 : Int32)) hx hb dX2_reach_42 (by decide) ?_
      refine lv_iadd hx hb dX2_reach_43 ?_
      refine lv_topi (fun x6 ex6 => ?_)
      replace hf := xsLt_use ex6 hf
      refine xp_X2_25 C hP hD hS dX2_reach_44 (fun H locs hP hD hS => ?_)
      have ho := Option.some.inj hf
      subst ho
      rw [hQq]
      exact xs_vret C hr hlk hP hD hS dX2_reach_47
set_option maxRecDepth 100000 in
set_option maxHeartbeats 8000000 in
theorem mX2_reachAround (l : Launch) {X : xsX} {kIsKept kIsStale hiLatest hiSize scLength scFault scAt scNumber piSegmentsNow enKind enFromX enFromY enToX enToY tiMeetingPairs tiAlongPairs tiSize evSize evCrossings evSegmentsNow grEdges grQueued huSize huBestX huBestY : Int32} {scBytes scTold tiTouching tiLyingAlong evBundle evCrossingOf evEventOf evLeftEvent evRightEvent grDegree grFar grQueue huX huY : Nat → Int32} {enX enY enLower : Int64} {evX evY evLower : Nat → Int64} {S : Nat → xsV} {Rw : va_W} {a1 : Int32} {out : (Nat → Int32) × (Nat → Int32) × Int32} (hf : fX2_reachAround evBundle evSize grFar grQueue grQueued a1 = some out) : Met l yX2_reachAround (xsWs yX2_reachAround cX2_reachAround 6 none) { frames := 1, cells := 0, slots := 0, locals := 22 } (xsP X (wK X kIsKept kIsStale hiLatest hiSize scBytes scTold scLength scFault scAt scNumber piSegmentsNow enKind enX enY enLower enFromX enFromY enToX enToY tiTouching tiLyingAlong tiMeetingPairs tiAlongPairs tiSize evX evY evLower evBundle evCrossingOf evEventOf evLeftEvent evRightEvent evSize evCrossings evSegmentsNow grDegree grEdges grFar grQueue grQueued huX huY huSize huBestX huBestY S Rw) [.ref (xsA X 20), .ref (xsA X 11), .int a1]) (xsQv X (wK X kIsKept kIsStale hiLatest hiSize scBytes scTold scLength scFault scAt scNumber piSegmentsNow enKind enX enY enLower enFromX enFromY enToX enToY tiTouching tiLyingAlong tiMeetingPairs tiAlongPairs tiSize evX evY evLower evBundle evCrossingOf evEventOf evLeftEvent evRightEvent evSize evCrossings evSegmentsNow grDegree grEdges out.1 out.2.1 out.2.2 huX huY huSize huBestX huBestY S Rw)) 0 0 (xsF X) := by
  refine xs_meth RX2 (by decide) rfl (Nat.le_of_ble_eq_true rfl) ?_
  intro p e s m below meth c ls H locs C hP hD hS hr hlk hl
  have hx := C.1
  have hb := C.2.1
  have hl : lv_has ls 6 [(0, .ref (xsA X 20)), (1, .ref (xsA X 11)), (2, .int a1)] := hl
  obtain ⟨Qq, hQq⟩ : ∃ Qq, Qq = xsQv X (wK X kIsKept kIsStale hiLatest hiSize scBytes scTold scLength scFault scAt scNumber piSegmentsNow enKind enX enY enLower enFromX enFromY enToX enToY tiTouching tiLyingAlong tiMeetingPairs tiAlongPairs tiSize evX evY evLower evBundle evCrossingOf evEventOf evLeftEvent evRightEvent evSize evCrossings evSegmentsNow grDegree grEdges out.1 out.2.1 out.2.2 huX huY huSize huBestX huBestY S Rw) := ⟨_, rfl⟩
  rw [← hQq]
  unfold fX2_reachAround at hf
  refine lv_aload_n hx hb dX2_reachAround_0 rfl (lv_at hl 1 rfl) ?_
  refine xg_X2_43 C hP dX2_reachAround_1 ?_
  refine lv_iload_n hx hb dX2_reachAround_4 rfl (lv_at hl 2 rfl) ?_
  replace hf := xsCk_use hf
  obtain ⟨h1, hf⟩ := hf
  refine xl_evBundle C hP h1 dX2_reachAround_5 ?_
  refine lv_topi (fun x2 ex2 => ?_)
  replace hf := xsLt_use ex2 hf
  refine lv_istore_n (lv' := [(3, .int x2), (0, .ref (xsA X 20)), (1, .ref (xsA X 11)), (2, .int a1)]) hx hb dX2_reachAround_6 rfl hl (by decide) rfl (fun ls hl => ?_)
  refine lv_iload_n hx hb dX2_reachAround_7 rfl (lv_at hl 3 rfl) ?_
  refine lv_iconst (v := (1 : Int32)) hx hb dX2_reachAround_8 (by decide) ?_
  refine lv_isub hx hb dX2_reachAround_9 ?_
  refine lv_topi (fun x3 ex3 => ?_)
  replace hf := xsLt_use ex3 hf
  refine lv_istore (lv' := [(4, .int x3), (3, .int x2), (0, .ref (xsA X 20)), (1, .ref (xsA X 11)), (2, .int a1)]) hx hb dX2_reachAround_10 hl (by decide) rfl (fun ls hl => ?_)
  have K9 : ∀ (y10 : Nat → Int32) (y11 : Nat → Int32) (y12 : Int32) (hf : fX2_reachAround_J65 evBundle evSize a1 y10 y11 y12 = some out) (H : Heap) (locs : List Loc) (ls : Array Slot), va_P (xsD X) vwCl (wK X kIsKept kIsStale hiLatest hiSize scBytes scTold scLength scFault scAt scNumber piSegmentsNow enKind enX enY enLower enFromX enFromY enToX enToY tiTouching tiLyingAlong tiMeetingPairs tiAlongPairs tiSize evX evY evLower evBundle evCrossingOf evEventOf evLeftEvent evRightEvent evSize evCrossings evSegmentsNow grDegree grEdges y10 y11 y12 huX huY huSize huBestX huBestY S Rw) H → va_D (xsF X) (wK X kIsKept kIsStale hiLatest hiSize scBytes scTold scLength scFault scAt scNumber piSegmentsNow enKind enX enY enLower enFromX enFromY enToX enToY tiTouching tiLyingAlong tiMeetingPairs tiAlongPairs tiSize evX evY evLower evBundle evCrossingOf evEventOf evLeftEvent evRightEvent evSize evCrossings evSegmentsNow grDegree grEdges y10 y11 y12 huX huY huSize huBestX huBestY S Rw) → va_S (xsF X) s.heap H locs → lv_has ls 6 [(0, .ref (xsA X 20)), (1, .ref (xsA X 11)), (2, .int a1)] → W p l e { frames := 1, cells := 0, slots := 0, locals := 22 } s m ([.ref (xsA X 20), .ref (xsA X 11), .int a1] : List Value).toArray below meth c H locs 0 0 (MQ below Qq ([.ref (xsA X 20), .ref (xsA X 11), .int a1] : List Value).toArray s 0 0 (xsF X)) (F0 m 65 ls []) := by
    intro y10 y11 y12 hf H locs ls hP hD hS hl
    unfold fX2_reachAround_J65 at hf
    refine lv_aload_n hx hb dX2_reachAround_65 rfl (lv_at hl 1 rfl) ?_
    refine xg_X2_43 C hP dX2_reachAround_66 ?_
    refine lv_iload_n hx hb dX2_reachAround_69 rfl (lv_at hl 2 rfl) ?_
    replace hf := xsCk_use hf
    obtain ⟨h13, hf⟩ := hf
    refine xl_evBundle C hP h13 dX2_reachAround_70 ?_
    refine lv_topi (fun x14 ex14 => ?_)
    replace hf := xsLt_use ex14 hf
    refine lv_istore (lv' := [(4, .int x14), (0, .ref (xsA X 20)), (1, .ref (xsA X 11)), (2, .int a1)]) hx hb dX2_reachAround_71 hl (by decide) rfl (fun ls hl => ?_)
    refine lv_iload_n hx hb dX2_reachAround_73 rfl (lv_at hl 3 rfl) ?_
    refine lv_iconst (v := (1 : Int32)) hx hb dX2_reachAround_74 (by decide) ?_
    refine lv_iadd hx hb dX2_reachAround_75 ?_
    refine lv_topi (fun x15 ex15 => ?_)
    replace hf := xsLt_use ex15 hf
    refine lv_istore (lv' := [(5, .int x15), (4, .int x14), (0, .ref (xsA X 20)), (1, .ref (xsA X 11)), (2, .int a1)]) hx hb dX2_reachAround_76 hl (by decide) rfl (fun ls hl => ?_)
    have K21 : ∀ (y22 : Nat → Int32) (y23 : Nat → Int32) (y24 : Int32) (hf : fX2_reachAround_J139 y22 y23 y24 = some out) (H : Heap) (locs : List Loc) (ls : Array Slot), va_P (xsD X) vwCl (wK X kIsKept kIsStale hiLatest hiSize scBytes scTold scLength scFault scAt scNumber piSegmentsNow enKind enX enY enLower enFromX enFromY enToX enToY tiTouching tiLyingAlong tiMeetingPairs tiAlongPairs tiSize evX evY evLower evBundle evCrossingOf evEventOf evLeftEvent evRightEvent evSize evCrossings evSegmentsNow grDegree grEdges y22 y23 y24 huX huY huSize huBestX huBestY S Rw) H → va_D (xsF X) (wK X kIsKept kIsStale hiLatest hiSize scBytes scTold scLength scFault scAt scNumber piSegmentsNow enKind enX enY enLower enFromX enFromY enToX enToY tiTouching tiLyingAlong tiMeetingPairs tiAlongPairs tiSize evX evY evLower evBundle evCrossingOf evEventOf evLeftEvent evRightEvent evSize evCrossings evSegmentsNow grDegree grEdges y22 y23 y24 huX huY huSize huBestX huBestY S Rw) → va_S (xsF X) s.heap H locs → lv_has ls 6 [] → W p l e { frames := 1, cells := 0, slots := 0, locals := 22 } s m ([.ref (xsA X 20), .ref (xsA X 11), .int a1] : List Value).toArray below meth c H locs 0 0 (MQ below Qq ([.ref (xsA X 20), .ref (xsA X 11), .int a1] : List Value).toArray s 0 0 (xsF X)) (F0 m 139 ls []) := by
      intro y22 y23 y24 hf H locs ls hP hD hS hl
      unfold fX2_reachAround_J139 at hf
      have ho := Option.some.inj hf
      subst ho
      rw [hQq]
      exact xs_vret C hr hlk hP hD hS dX2_reachAround_139
    replace hf := xsBd_use hf
    obtain ⟨r21, hk210, hf⟩ := hf
    have L21 : ∀ (sg : Int32 × Int32 × (Nat → Int32) × (Nat → Int32) × Int32) (rg : (Nat → Int32) × (Nat → Int32) × Int32), xsWh (fun s21 => fX2_reachAround_L78 evBundle evSize a1 s21.1 s21.2.1 s21.2.2.1 s21.2.2.2.1 s21.2.2.2.2) sg = some rg → (fX2_reachAround_J139 rg.1 rg.2.1 rg.2.2 = some out → ∀ (H : Heap) (locs : List Loc) (ls : Array Slot), va_P (xsD X) vwCl (wK X kIsKept kIsStale hiLatest hiSize scBytes scTold scLength scFault scAt scNumber piSegmentsNow enKind enX enY enLower enFromX enFromY enToX enToY tiTouching tiLyingAlong tiMeetingPairs tiAlongPairs tiSize evX evY evLower evBundle evCrossingOf evEventOf evLeftEvent evRightEvent evSize evCrossings evSegmentsNow grDegree grEdges sg.2.2.1 sg.2.2.2.1 sg.2.2.2.2 huX huY huSize huBestX huBestY S Rw) H → va_D (xsF X) (wK X kIsKept kIsStale hiLatest hiSize scBytes scTold scLength scFault scAt scNumber piSegmentsNow enKind enX enY enLower enFromX enFromY enToX enToY tiTouching tiLyingAlong tiMeetingPairs tiAlongPairs tiSize evX evY evLower evBundle evCrossingOf evEventOf evLeftEvent evRightEvent evSize evCrossings evSegmentsNow grDegree grEdges sg.2.2.1 sg.2.2.2.1 sg.2.2.2.2 huX huY huSize huBestX huBestY S Rw) → va_S (xsF X) s.heap H locs → lv_has ls 6 [(0, .ref (xsA X 20)), (1, .ref (xsA X 11)), (2, .int a1), (4, .int sg.1), (5, .int sg.2.1)] → W p l e { frames := 1, cells := 0, slots := 0, locals := 22 } s m ([.ref (xsA X 20), .ref (xsA X 11), .int a1] : List Value).toArray below meth c H locs 0 0 (MQ below Qq ([.ref (xsA X 20), .ref (xsA X 11), .int a1] : List Value).toArray s 0 0 (xsF X)) (F0 m 78 ls [])) := by
      refine xsWh_ind ?_
      intro sg r21 u21 hf ih21 hx21 hk21 H locs ls hP hD hS hl
      obtain ⟨y16, y17, y18, y19, y20⟩ := sg
      replace hf : fX2_reachAround_L78 evBundle evSize a1 y16 y17 y18 y19 y20 = some u21 := hf
      replace hl : lv_has ls 6 [(0, .ref (xsA X 20)), (1, .ref (xsA X 11)), (2, .int a1), (4, .int y16), (5, .int y17)] := hl
      replace hP : va_P (xsD X) vwCl (wK X kIsKept kIsStale hiLatest hiSize scBytes scTold scLength scFault scAt scNumber piSegmentsNow enKind enX enY enLower enFromX enFromY enToX enToY tiTouching tiLyingAlong tiMeetingPairs tiAlongPairs tiSize evX evY evLower evBundle evCrossingOf evEventOf evLeftEvent evRightEvent evSize evCrossings evSegmentsNow grDegree grEdges y18 y19 y20 huX huY huSize huBestX huBestY S Rw) H := hP
      replace hD : va_D (xsF X) (wK X kIsKept kIsStale hiLatest hiSize scBytes scTold scLength scFault scAt scNumber piSegmentsNow enKind enX enY enLower enFromX enFromY enToX enToY tiTouching tiLyingAlong tiMeetingPairs tiAlongPairs tiSize evX evY evLower evBundle evCrossingOf evEventOf evLeftEvent evRightEvent evSize evCrossings evSegmentsNow grDegree grEdges y18 y19 y20 huX huY huSize huBestX huBestY S Rw) := hD
      unfold fX2_reachAround_L78 at hf
      refine lv_iload hx hb dX2_reachAround_78 (lv_at hl 4 rfl) ?_
      refine lv_aload_n hx hb dX2_reachAround_80 rfl (lv_at hl 1 rfl) ?_
      refine xg_X2_28 C hP dX2_reachAround_81 ?_
      refine lv_icmp_ge (tgt := 139) hx hb dX2_reachAround_84 (by decide) (fun c41 => ?_) (fun c41 => ?_)
      · replace hf := xsBr_t c41 hf
        have ez := hx21 _ (Option.some.inj hf).symm
        subst ez
        exact K21 y18 y19 y20 hk21 H locs ls hP hD hS (lv_sub hl [] rfl)
      · replace hf := xsBr_f c41 hf
        refine lv_iload hx hb dX2_reachAround_87 (lv_at hl 3 rfl) ?_
        refine lv_if_eq (tgt := 139) hx hb dX2_reachAround_89 (by decide) (fun c40 => ?_) (fun c40 => ?_)
        · replace hf := xsBr_t c40 hf
          have ez := hx21 _ (Option.some.inj hf).symm
          subst ez
          exact K21 y18 y19 y20 hk21 H locs ls hP hD hS (lv_sub hl [] rfl)
        · replace hf := xsBr_f c40 hf
          refine lv_aload_n hx hb dX2_reachAround_92 rfl (lv_at hl 1 rfl) ?_
          refine xg_X2_43 C hP dX2_reachAround_93 ?_
          refine lv_iload hx hb dX2_reachAround_96 (lv_at hl 4 rfl) ?_
          replace hf := xsCk_use hf
          obtain ⟨h25, hf⟩ := hf
          refine xl_evBundle C hP h25 dX2_reachAround_98 ?_
          refine lv_iload hx hb dX2_reachAround_99 (lv_at hl 3 rfl) ?_
          refine lv_iand hx hb dX2_reachAround_101 ?_
          have K33 : ∀ (y26 : Int32) (y27 : Nat → Int32) (y28 : Nat → Int32) (y29 : Int32) (hf : fX2_reachAround_J133 y17 y26 y27 y28 y29 = some u21) (H : Heap) (locs : List Loc) (ls : Array Slot), va_P (xsD X) vwCl (wK X kIsKept kIsStale hiLatest hiSize scBytes scTold scLength scFault scAt scNumber piSegmentsNow enKind enX enY enLower enFromX enFromY enToX enToY tiTouching tiLyingAlong tiMeetingPairs tiAlongPairs tiSize evX evY evLower evBundle evCrossingOf evEventOf evLeftEvent evRightEvent evSize evCrossings evSegmentsNow grDegree grEdges y27 y28 y29 huX huY huSize huBestX huBestY S Rw) H → va_D (xsF X) (wK X kIsKept kIsStale hiLatest hiSize scBytes scTold scLength scFault scAt scNumber piSegmentsNow enKind enX enY enLower enFromX enFromY enToX enToY tiTouching tiLyingAlong tiMeetingPairs tiAlongPairs tiSize evX evY evLower evBundle evCrossingOf evEventOf evLeftEvent evRightEvent evSize evCrossings evSegmentsNow grDegree grEdges y27 y28 y29 huX huY huSize huBestX huBestY S Rw) → va_S (xsF X) s.heap H locs → lv_has ls 6 [(0, .ref (xsA X 20)), (1, .ref (xsA X 11)), (2, .int a1), (4, .int y26), (5, .int y17)] → W p l e { frames := 1, cells := 0, slots := 0, locals := 22 } s m ([.ref (xsA X 20), .ref (xsA X 11), .int a1] : List Value).toArray below meth c H locs 0 0 (MQ below Qq ([.ref (xsA X 20), .ref (xsA X 11), .int a1] : List Value).toArray s 0 0 (xsF X)) (F0 m 133 ls []) := by
            intro y26 y27 y28 y29 hf H locs ls hP hD hS hl
            unfold fX2_reachAround_J133 at hf
            obtain ⟨x30, ex30⟩ : ∃ y : Int32, y = y17 + (1 : Int32) := ⟨_, rfl⟩
            replace hf := xsLt_use ex30 hf
            refine lv_iinc (v := x30) (lv' := [(5, .int x30), (0, .ref (xsA X 20)), (1, .ref (xsA X 11)), (2, .int a1), (4, .int y26)]) hx hb dX2_reachAround_133 hl (k := 4) rfl (by rw [ex30]; rfl) (by decide) rfl (fun ls hl => ?_)
            refine lv_goto (tgt := 78) hx hb dX2_reachAround_136 (by decide) ?_
            exact ih21 _ (Option.some.inj hf).symm hk21 H locs ls hP hD hS (lv_sub hl [1, 2, 3, 4, 0] rfl)
          replace hf := xsBd_use hf
          obtain ⟨v31, hf, hk32⟩ := hf
          refine lv_if_eq (tgt := 133) hx hb dX2_reachAround_102 (by decide) (fun c39 => ?_) (fun c39 => ?_)
          · replace hf := xsBr_t c39 hf
            have ev := Option.some.inj hf
            subst ev
            exact K33 y16 y18 y19 y20 hk32 H locs ls hP hD hS (lv_sub hl [0, 1, 2, 3, 4] rfl)
          · replace hf := xsBr_f c39 hf
            refine lv_aload_n hx hb dX2_reachAround_105 rfl (lv_at hl 0 rfl) ?_
            refine lv_iload hx hb dX2_reachAround_106 (lv_at hl 4 rfl) ?_
            refine lv_aload_n hx hb dX2_reachAround_108 rfl (lv_at hl 0 rfl) ?_
            refine xg_X2_15 C hP dX2_reachAround_109 ?_
            refine lv_iload_n hx hb dX2_reachAround_112 rfl (lv_at hl 2 rfl) ?_
            replace hf := xsCk_use hf
            obtain ⟨h34, hf⟩ := hf
            refine xl_grFar C hP h34 dX2_reachAround_113 ?_
            refine lv_iconst (v := (1 : Int32)) hx hb dX2_reachAround_114 (by decide) ?_
            refine lv_iadd hx hb dX2_reachAround_115 ?_
            replace hf := xsBd_use hf
            obtain ⟨o35, h36, hf⟩ := hf
            refine xs_callv hS (xs_runV (As := [.int y17, .int ((y18 a1.toNatClampNeg) + (1 : Int32))]) C (mX2_reach l  h36) w_1216 w_1218 w_30 w_113 w_1219 hd_X2_reach ⟨rfl, rfl, Nat.le_of_ble_eq_true rfl, Nat.le_of_ble_eq_true rfl, Nat.zero_le _, Nat.zero_le _⟩ hP hD hS lk_X2 rfl hl.1 rfl (Nat.le_of_ble_eq_true rfl) dX2_reachAround_116) (fun H locs hP hD hS => ?_)
            refine lv_iload hx hb dX2_reachAround_119 (lv_at hl 3 rfl) ?_
            refine lv_aload_n hx hb dX2_reachAround_121 rfl (lv_at hl 1 rfl) ?_
            refine xg_X2_43 C hP dX2_reachAround_122 ?_
            refine lv_iload hx hb dX2_reachAround_125 (lv_at hl 4 rfl) ?_
            replace hf := xsCk_use hf
            obtain ⟨h37, hf⟩ := hf
            refine xl_evBundle C hP h37 dX2_reachAround_127 ?_
            refine lv_iconst (v := (-1 : Int32)) hx hb dX2_reachAround_128 (by decide) ?_
            refine lv_ixor hx hb dX2_reachAround_129 ?_
            refine lv_iand hx hb dX2_reachAround_130 ?_
            refine lv_topi (fun x38 ex38 => ?_)
            replace hf := xsLt_use ex38 hf
            refine lv_istore (lv' := [(4, .int x38), (0, .ref (xsA X 20)), (1, .ref (xsA X 11)), (2, .int a1), (5, .int y17)]) hx hb dX2_reachAround_131 hl (by decide) rfl (fun ls hl => ?_)
            have ev := Option.some.inj hf
            subst ev
            exact K33 x38 o35.1 o35.2.1 o35.2.2 hk32 H locs ls hP hD hS (lv_sub hl [1, 2, 3, 0, 4] rfl)
    exact L21 (x14, x15, y10, y11, y12) r21 hk210 hf H locs ls hP hD hS (lv_sub hl [2, 3, 4, 1, 0] rfl)
  replace hf := xsBd_use hf
  obtain ⟨r9, hk90, hf⟩ := hf
  have L9 : ∀ (sg : Int32 × Int32 × (Nat → Int32) × (Nat → Int32) × Int32) (rg : (Nat → Int32) × (Nat → Int32) × Int32), xsWh (fun s9 => fX2_reachAround_L12 evBundle a1 s9.1 s9.2.1 s9.2.2.1 s9.2.2.2.1 s9.2.2.2.2) sg = some rg → (fX2_reachAround_J65 evBundle evSize a1 rg.1 rg.2.1 rg.2.2 = some out → ∀ (H : Heap) (locs : List Loc) (ls : Array Slot), va_P (xsD X) vwCl (wK X kIsKept kIsStale hiLatest hiSize scBytes scTold scLength scFault scAt scNumber piSegmentsNow enKind enX enY enLower enFromX enFromY enToX enToY tiTouching tiLyingAlong tiMeetingPairs tiAlongPairs tiSize evX evY evLower evBundle evCrossingOf evEventOf evLeftEvent evRightEvent evSize evCrossings evSegmentsNow grDegree grEdges sg.2.2.1 sg.2.2.2.1 sg.2.2.2.2 huX huY huSize huBestX huBestY S Rw) H → va_D (xsF X) (wK X kIsKept kIsStale hiLatest hiSize scBytes scTold scLength scFault scAt scNumber piSegmentsNow enKind enX enY enLower enFromX enFromY enToX enToY tiTouching tiLyingAlong tiMeetingPairs tiAlongPairs tiSize evX evY evLower evBundle evCrossingOf evEventOf evLeftEvent evRightEvent evSize evCrossings evSegmentsNow grDegree grEdges sg.2.2.1 sg.2.2.2.1 sg.2.2.2.2 huX huY huSize huBestX huBestY S Rw) → va_S (xsF X) s.heap H locs → lv_has ls 6 [(0, .ref (xsA X 20)), (1, .ref (xsA X 11)), (2, .int a1), (3, .int sg.1), (4, .int sg.2.1)] → W p l e { frames := 1, cells := 0, slots := 0, locals := 22 } s m ([.ref (xsA X 20), .ref (xsA X 11), .int a1] : List Value).toArray below meth c H locs 0 0 (MQ below Qq ([.ref (xsA X 20), .ref (xsA X 11), .int a1] : List Value).toArray s 0 0 (xsF X)) (F0 m 12 ls [])) := by
    refine xsWh_ind ?_
    intro sg r9 u9 hf ih9 hx9 hk9 H locs ls hP hD hS hl
    obtain ⟨y4, y5, y6, y7, y8⟩ := sg
    replace hf : fX2_reachAround_L12 evBundle a1 y4 y5 y6 y7 y8 = some u9 := hf
    replace hl : lv_has ls 6 [(0, .ref (xsA X 20)), (1, .ref (xsA X 11)), (2, .int a1), (3, .int y4), (4, .int y5)] := hl
    replace hP : va_P (xsD X) vwCl (wK X kIsKept kIsStale hiLatest hiSize scBytes scTold scLength scFault scAt scNumber piSegmentsNow enKind enX enY enLower enFromX enFromY enToX enToY tiTouching tiLyingAlong tiMeetingPairs tiAlongPairs tiSize evX evY evLower evBundle evCrossingOf evEventOf evLeftEvent evRightEvent evSize evCrossings evSegmentsNow grDegree grEdges y6 y7 y8 huX huY huSize huBestX huBestY S Rw) H := hP
    replace hD : va_D (xsF X) (wK X kIsKept kIsStale hiLatest hiSize scBytes scTold scLength scFault scAt scNumber piSegmentsNow enKind enX enY enLower enFromX enFromY enToX enToY tiTouching tiLyingAlong tiMeetingPairs tiAlongPairs tiSize evX evY evLower evBundle evCrossingOf evEventOf evLeftEvent evRightEvent evSize evCrossings evSegmentsNow grDegree grEdges y6 y7 y8 huX huY huSize huBestX huBestY S Rw) := hD
    unfold fX2_reachAround_L12 at hf
    refine lv_iload hx hb dX2_reachAround_12 (lv_at hl 4 rfl) ?_
    refine lv_if_lt (tgt := 65) hx hb dX2_reachAround_14 (by decide) (fun c58 => ?_) (fun c58 => ?_)
    · replace hf := xsBr_t c58 hf
      have ez := hx9 _ (Option.some.inj hf).symm
      subst ez
      exact K9 y6 y7 y8 hk9 H locs ls hP hD hS (lv_sub hl [0, 1, 2] rfl)
    · replace hf := xsBr_f c58 hf
      refine lv_iload_n hx hb dX2_reachAround_17 rfl (lv_at hl 3 rfl) ?_
      refine lv_if_eq (tgt := 65) hx hb dX2_reachAround_18 (by decide) (fun c57 => ?_) (fun c57 => ?_)
      · replace hf := xsBr_t c57 hf
        have ez := hx9 _ (Option.some.inj hf).symm
        subst ez
        exact K9 y6 y7 y8 hk9 H locs ls hP hD hS (lv_sub hl [0, 1, 2] rfl)
      · replace hf := xsBr_f c57 hf
        refine lv_aload_n hx hb dX2_reachAround_21 rfl (lv_at hl 1 rfl) ?_
        refine xg_X2_43 C hP dX2_reachAround_22 ?_
        refine lv_iload hx hb dX2_reachAround_25 (lv_at hl 4 rfl) ?_
        replace hf := xsCk_use hf
        obtain ⟨h42, hf⟩ := hf
        refine xl_evBundle C hP h42 dX2_reachAround_27 ?_
        refine lv_iload_n hx hb dX2_reachAround_28 rfl (lv_at hl 3 rfl) ?_
        refine lv_iand hx hb dX2_reachAround_29 ?_
        have K50 : ∀ (y43 : Int32) (y44 : Nat → Int32) (y45 : Nat → Int32) (y46 : Int32) (hf : fX2_reachAround_J59 y5 y43 y44 y45 y46 = some u9) (H : Heap) (locs : List Loc) (ls : Array Slot), va_P (xsD X) vwCl (wK X kIsKept kIsStale hiLatest hiSize scBytes scTold scLength scFault scAt scNumber piSegmentsNow enKind enX enY enLower enFromX enFromY enToX enToY tiTouching tiLyingAlong tiMeetingPairs tiAlongPairs tiSize evX evY evLower evBundle evCrossingOf evEventOf evLeftEvent evRightEvent evSize evCrossings evSegmentsNow grDegree grEdges y44 y45 y46 huX huY huSize huBestX huBestY S Rw) H → va_D (xsF X) (wK X kIsKept kIsStale hiLatest hiSize scBytes scTold scLength scFault scAt scNumber piSegmentsNow enKind enX enY enLower enFromX enFromY enToX enToY tiTouching tiLyingAlong tiMeetingPairs tiAlongPairs tiSize evX evY evLower evBundle evCrossingOf evEventOf evLeftEvent evRightEvent evSize evCrossings evSegmentsNow grDegree grEdges y44 y45 y46 huX huY huSize huBestX huBestY S Rw) → va_S (xsF X) s.heap H locs → lv_has ls 6 [(0, .ref (xsA X 20)), (1, .ref (xsA X 11)), (2, .int a1), (3, .int y43), (4, .int y5)] → W p l e { frames := 1, cells := 0, slots := 0, locals := 22 } s m ([.ref (xsA X 20), .ref (xsA X 11), .int a1] : List Value).toArray below meth c H locs 0 0 (MQ below Qq ([.ref (xsA X 20), .ref (xsA X 11), .int a1] : List Value).toArray s 0 0 (xsF X)) (F0 m 59 ls []) := by
          intro y43 y44 y45 y46 hf H locs ls hP hD hS hl
          unfold fX2_reachAround_J59 at hf
          obtain ⟨x47, ex47⟩ : ∃ y : Int32, y = y5 + (-1 : Int32) := ⟨_, rfl⟩
          replace hf := xsLt_use ex47 hf
          refine lv_iinc (v := x47) (lv' := [(4, .int x47), (0, .ref (xsA X 20)), (1, .ref (xsA X 11)), (2, .int a1), (3, .int y43)]) hx hb dX2_reachAround_59 hl (k := 4) rfl (by rw [ex47]; rfl) (by decide) rfl (fun ls hl => ?_)
          refine lv_goto (tgt := 12) hx hb dX2_reachAround_62 (by decide) ?_
          exact ih9 _ (Option.some.inj hf).symm hk9 H locs ls hP hD hS (lv_sub hl [1, 2, 3, 4, 0] rfl)
        replace hf := xsBd_use hf
        obtain ⟨v48, hf, hk49⟩ := hf
        refine lv_if_eq (tgt := 59) hx hb dX2_reachAround_30 (by decide) (fun c56 => ?_) (fun c56 => ?_)
        · replace hf := xsBr_t c56 hf
          have ev := Option.some.inj hf
          subst ev
          exact K50 y4 y6 y7 y8 hk49 H locs ls hP hD hS (lv_sub hl [0, 1, 2, 3, 4] rfl)
        · replace hf := xsBr_f c56 hf
          refine lv_aload_n hx hb dX2_reachAround_33 rfl (lv_at hl 0 rfl) ?_
          refine lv_iload hx hb dX2_reachAround_34 (lv_at hl 4 rfl) ?_
          refine lv_aload_n hx hb dX2_reachAround_36 rfl (lv_at hl 0 rfl) ?_
          refine xg_X2_15 C hP dX2_reachAround_37 ?_
          refine lv_iload_n hx hb dX2_reachAround_40 rfl (lv_at hl 2 rfl) ?_
          replace hf := xsCk_use hf
          obtain ⟨h51, hf⟩ := hf
          refine xl_grFar C hP h51 dX2_reachAround_41 ?_
          refine lv_iconst (v := (1 : Int32)) hx hb dX2_reachAround_42 (by decide) ?_
          refine lv_iadd hx hb dX2_reachAround_43 ?_
          replace hf := xsBd_use hf
          obtain ⟨o52, h53, hf⟩ := hf
          refine xs_callv hS (xs_runV (As := [.int y5, .int ((y6 a1.toNatClampNeg) + (1 : Int32))]) C (mX2_reach l  h53) w_1216 w_1218 w_30 w_113 w_1219 hd_X2_reach ⟨rfl, rfl, Nat.le_of_ble_eq_true rfl, Nat.le_of_ble_eq_true rfl, Nat.zero_le _, Nat.zero_le _⟩ hP hD hS lk_X2 rfl hl.1 rfl (Nat.le_of_ble_eq_true rfl) dX2_reachAround_44) (fun H locs hP hD hS => ?_)
          refine lv_iload_n hx hb dX2_reachAround_47 rfl (lv_at hl 3 rfl) ?_
          refine lv_aload_n hx hb dX2_reachAround_48 rfl (lv_at hl 1 rfl) ?_
          refine xg_X2_43 C hP dX2_reachAround_49 ?_
          refine lv_iload hx hb dX2_reachAround_52 (lv_at hl 4 rfl) ?_
          replace hf := xsCk_use hf
          obtain ⟨h54, hf⟩ := hf
          refine xl_evBundle C hP h54 dX2_reachAround_54 ?_
          refine lv_iconst (v := (-1 : Int32)) hx hb dX2_reachAround_55 (by decide) ?_
          refine lv_ixor hx hb dX2_reachAround_56 ?_
          refine lv_iand hx hb dX2_reachAround_57 ?_
          refine lv_topi (fun x55 ex55 => ?_)
          replace hf := xsLt_use ex55 hf
          refine lv_istore_n (lv' := [(3, .int x55), (0, .ref (xsA X 20)), (1, .ref (xsA X 11)), (2, .int a1), (4, .int y5)]) hx hb dX2_reachAround_58 rfl hl (by decide) rfl (fun ls hl => ?_)
          have ev := Option.some.inj hf
          subst ev
          exact K50 x55 o52.1 o52.2.1 o52.2.2 hk49 H locs ls hP hD hS (lv_sub hl [1, 2, 3, 0, 4] rfl)
  exact L9 (x2, x3, grFar, grQueue, grQueued) r9 hk90 hf H locs ls hP hD hS (lv_sub hl [2, 3, 4, 1, 0] rfl)
set_option maxRecDepth 100000 in
set_option maxHeartbeats 8000000 in
theorem mX2_distance (l : Launch) {X : xsX} {kIsKept kIsStale hiLatest hiSize scLength scFault scAt scNumber piSegmentsNow enKind enFromX enFromY enToX enToY tiMeetingPairs tiAlongPairs tiSize evSize evCrossings evSegmentsNow grEdges grQueued huSize huBestX huBestY : Int32} {scBytes scTold tiTouching tiLyingAlong evBundle evCrossingOf evEventOf evLeftEvent evRightEvent grDegree grFar grQueue huX huY : Nat → Int32} {enX enY enLower : Int64} {evX evY evLower : Nat → Int64} {S : Nat → xsV} {Rw : va_W} {a1 : Int32} {a2 : Int32} {out : Int32 × (Nat → Int32) × (Nat → Int32) × Int32} (hf : fX2_distance evBundle evSize grFar grQueue grQueued a1 a2 = some out) : Met l yX2_distance (xsWs yX2_distance cX2_distance 5 (some .int)) { frames := 2, cells := 0, slots := 0, locals := 47 } (xsP X (wK X kIsKept kIsStale hiLatest hiSize scBytes scTold scLength scFault scAt scNumber piSegmentsNow enKind enX enY enLower enFromX enFromY enToX enToY tiTouching tiLyingAlong tiMeetingPairs tiAlongPairs tiSize evX evY evLower evBundle evCrossingOf evEventOf evLeftEvent evRightEvent evSize evCrossings evSegmentsNow grDegree grEdges grFar grQueue grQueued huX huY huSize huBestX huBestY S Rw) [.ref (xsA X 20), .ref (xsA X 11), .int a1, .int a2]) (xsQi X out.1 (wK X kIsKept kIsStale hiLatest hiSize scBytes scTold scLength scFault scAt scNumber piSegmentsNow enKind enX enY enLower enFromX enFromY enToX enToY tiTouching tiLyingAlong tiMeetingPairs tiAlongPairs tiSize evX evY evLower evBundle evCrossingOf evEventOf evLeftEvent evRightEvent evSize evCrossings evSegmentsNow grDegree grEdges out.2.1 out.2.2.1 out.2.2.2 huX huY huSize huBestX huBestY S Rw)) 0 0 (xsF X) := by
  refine xs_meth RX2 (by decide) rfl (Nat.le_of_ble_eq_true rfl) ?_
  intro p e s m below meth c ls H locs C hP hD hS hr hlk hl
  have hx := C.1
  have hb := C.2.1
  have hl : lv_has ls 5 [(0, .ref (xsA X 20)), (1, .ref (xsA X 11)), (2, .int a1), (3, .int a2)] := hl
  obtain ⟨Qq, hQq⟩ : ∃ Qq, Qq = xsQi X out.1 (wK X kIsKept kIsStale hiLatest hiSize scBytes scTold scLength scFault scAt scNumber piSegmentsNow enKind enX enY enLower enFromX enFromY enToX enToY tiTouching tiLyingAlong tiMeetingPairs tiAlongPairs tiSize evX evY evLower evBundle evCrossingOf evEventOf evLeftEvent evRightEvent evSize evCrossings evSegmentsNow grDegree grEdges out.2.1 out.2.2.1 out.2.2.2 huX huY huSize huBestX huBestY S Rw) := ⟨_, rfl⟩
  rw [← hQq]
  unfold fX2_distance at hf
  refine lv_iconst (v := (0 : Int32)) hx hb dX2_distance_0 (by decide) ?_
  refine lv_istore (lv' := [(4, .int (0 : Int32)), (0, .ref (xsA X 20)), (1, .ref (xsA X 11)), (2, .int a1), (3, .int a2)]) hx hb dX2_distance_1 hl (by decide) rfl (fun ls hl => ?_)
  have K3 : ∀ (y4 : Nat → Int32) (hf : fX2_distance_J26 evBundle evSize grQueue a1 a2 y4 = some out) (H : Heap) (locs : List Loc) (ls : Array Slot), va_P (xsD X) vwCl (wK X kIsKept kIsStale hiLatest hiSize scBytes scTold scLength scFault scAt scNumber piSegmentsNow enKind enX enY enLower enFromX enFromY enToX enToY tiTouching tiLyingAlong tiMeetingPairs tiAlongPairs tiSize evX evY evLower evBundle evCrossingOf evEventOf evLeftEvent evRightEvent evSize evCrossings evSegmentsNow grDegree grEdges y4 grQueue grQueued huX huY huSize huBestX huBestY S Rw) H → va_D (xsF X) (wK X kIsKept kIsStale hiLatest hiSize scBytes scTold scLength scFault scAt scNumber piSegmentsNow enKind enX enY enLower enFromX enFromY enToX enToY tiTouching tiLyingAlong tiMeetingPairs tiAlongPairs tiSize evX evY evLower evBundle evCrossingOf evEventOf evLeftEvent evRightEvent evSize evCrossings evSegmentsNow grDegree grEdges y4 grQueue grQueued huX huY huSize huBestX huBestY S Rw) → va_S (xsF X) s.heap H locs → lv_has ls 5 [(0, .ref (xsA X 20)), (1, .ref (xsA X 11)), (2, .int a1), (3, .int a2)] → W p l e { frames := 2, cells := 0, slots := 0, locals := 47 } s m ([.ref (xsA X 20), .ref (xsA X 11), .int a1, .int a2] : List Value).toArray below meth c H locs 0 0 (MQ below Qq ([.ref (xsA X 20), .ref (xsA X 11), .int a1, .int a2] : List Value).toArray s 0 0 (xsF X)) (F0 m 26 ls []) := by
    intro y4 hf H locs ls hP hD hS hl
    unfold fX2_distance_J26 at hf
    refine lv_aload_n hx hb dX2_distance_26 rfl (lv_at hl 0 rfl) ?_
    refine lv_iconst (v := (0 : Int32)) hx hb dX2_distance_27 (by decide) ?_
    refine xp_X2_25 C hP hD hS dX2_distance_28 (fun H locs hP hD hS => ?_)
    refine lv_aload_n hx hb dX2_distance_31 rfl (lv_at hl 0 rfl) ?_
    refine lv_iload_n hx hb dX2_distance_32 rfl (lv_at hl 2 rfl) ?_
    refine lv_iconst (v := (0 : Int32)) hx hb dX2_distance_33 (by decide) ?_
    replace hf := xsBd_use hf
    obtain ⟨o5, h6, hf⟩ := hf
    refine xs_callv hS (xs_runV (As := [.int a1, .int (0 : Int32)]) C (mX2_reach l  h6) w_1216 w_1218 w_30 w_113 w_1219 hd_X2_reach ⟨rfl, rfl, Nat.le_of_ble_eq_true rfl, Nat.le_of_ble_eq_true rfl, Nat.zero_le _, Nat.zero_le _⟩ hP hD hS lk_X2 rfl hl.1 rfl (Nat.le_of_ble_eq_true rfl) dX2_distance_34) (fun H locs hP hD hS => ?_)
    refine lv_iconst (v := (0 : Int32)) hx hb dX2_distance_37 (by decide) ?_
    refine lv_istore (lv' := [(4, .int (0 : Int32)), (0, .ref (xsA X 20)), (1, .ref (xsA X 11)), (2, .int a1), (3, .int a2)]) hx hb dX2_distance_38 hl (by decide) rfl (fun ls hl => ?_)
    have K11 : ∀ (y12 : Nat → Int32) (y13 : Nat → Int32) (y14 : Int32) (hf : fX2_distance_J77 a2 y12 y13 y14 = some out) (H : Heap) (locs : List Loc) (ls : Array Slot), va_P (xsD X) vwCl (wK X kIsKept kIsStale hiLatest hiSize scBytes scTold scLength scFault scAt scNumber piSegmentsNow enKind enX enY enLower enFromX enFromY enToX enToY tiTouching tiLyingAlong tiMeetingPairs tiAlongPairs tiSize evX evY evLower evBundle evCrossingOf evEventOf evLeftEvent evRightEvent evSize evCrossings evSegmentsNow grDegree grEdges y12 y13 y14 huX huY huSize huBestX huBestY S Rw) H → va_D (xsF X) (wK X kIsKept kIsStale hiLatest hiSize scBytes scTold scLength scFault scAt scNumber piSegmentsNow enKind enX enY enLower enFromX enFromY enToX enToY tiTouching tiLyingAlong tiMeetingPairs tiAlongPairs tiSize evX evY evLower evBundle evCrossingOf evEventOf evLeftEvent evRightEvent evSize evCrossings evSegmentsNow grDegree grEdges y12 y13 y14 huX huY huSize huBestX huBestY S Rw) → va_S (xsF X) s.heap H locs → lv_has ls 5 [(0, .ref (xsA X 20)), (3, .int a2)] → W p l e { frames := 2, cells := 0, slots := 0, locals := 47 } s m ([.ref (xsA X 20), .ref (xsA X 11), .int a1, .int a2] : List Value).toArray below meth c H locs 0 0 (MQ below Qq ([.ref (xsA X 20), .ref (xsA X 11), .int a1, .int a2] : List Value).toArray s 0 0 (xsF X)) (F0 m 77 ls []) := by
      intro y12 y13 y14 hf H locs ls hP hD hS hl
      unfold fX2_distance_J77 at hf
      refine lv_aload_n hx hb dX2_distance_77 rfl (lv_at hl 0 rfl) ?_
      refine xg_X2_15 C hP dX2_distance_78 ?_
      refine lv_iload_n hx hb dX2_distance_81 rfl (lv_at hl 1 rfl) ?_
      replace hf := xsCk_use hf
      obtain ⟨h15, hf⟩ := hf
      refine xl_grFar C hP h15 dX2_distance_82 ?_
      have ho := Option.some.inj hf
      subst ho
      rw [hQq]
      exact xs_iret C hr hlk hP hD hS dX2_distance_83
    replace hf := xsBd_use hf
    obtain ⟨r11, hk110, hf⟩ := hf
    have L11 : ∀ (sg : Int32 × (Nat → Int32) × (Nat → Int32) × Int32) (rg : (Nat → Int32) × (Nat → Int32) × Int32), xsWh (fun s11 => fX2_distance_L40 evBundle evSize a2 s11.1 s11.2.1 s11.2.2.1 s11.2.2.2) sg = some rg → (fX2_distance_J77 a2 rg.1 rg.2.1 rg.2.2 = some out → ∀ (H : Heap) (locs : List Loc) (ls : Array Slot), va_P (xsD X) vwCl (wK X kIsKept kIsStale hiLatest hiSize scBytes scTold scLength scFault scAt scNumber piSegmentsNow enKind enX enY enLower enFromX enFromY enToX enToY tiTouching tiLyingAlong tiMeetingPairs tiAlongPairs tiSize evX evY evLower evBundle evCrossingOf evEventOf evLeftEvent evRightEvent evSize evCrossings evSegmentsNow grDegree grEdges sg.2.1 sg.2.2.1 sg.2.2.2 huX huY huSize huBestX huBestY S Rw) H → va_D (xsF X) (wK X kIsKept kIsStale hiLatest hiSize scBytes scTold scLength scFault scAt scNumber piSegmentsNow enKind enX enY enLower enFromX enFromY enToX enToY tiTouching tiLyingAlong tiMeetingPairs tiAlongPairs tiSize evX evY evLower evBundle evCrossingOf evEventOf evLeftEvent evRightEvent evSize evCrossings evSegmentsNow grDegree grEdges sg.2.1 sg.2.2.1 sg.2.2.2 huX huY huSize huBestX huBestY S Rw) → va_S (xsF X) s.heap H locs → lv_has ls 5 [(0, .ref (xsA X 20)), (1, .ref (xsA X 11)), (3, .int a2), (4, .int sg.1)] → W p l e { frames := 2, cells := 0, slots := 0, locals := 47 } s m ([.ref (xsA X 20), .ref (xsA X 11), .int a1, .int a2] : List Value).toArray below meth c H locs 0 0 (MQ below Qq ([.ref (xsA X 20), .ref (xsA X 11), .int a1, .int a2] : List Value).toArray s 0 0 (xsF X)) (F0 m 40 ls [])) := by
      refine xsWh_ind ?_
      intro sg r11 u11 hf ih11 hx11 hk11 H locs ls hP hD hS hl
      obtain ⟨y7, y8, y9, y10⟩ := sg
      replace hf : fX2_distance_L40 evBundle evSize a2 y7 y8 y9 y10 = some u11 := hf
      replace hl : lv_has ls 5 [(0, .ref (xsA X 20)), (1, .ref (xsA X 11)), (3, .int a2), (4, .int y7)] := hl
      replace hP : va_P (xsD X) vwCl (wK X kIsKept kIsStale hiLatest hiSize scBytes scTold scLength scFault scAt scNumber piSegmentsNow enKind enX enY enLower enFromX enFromY enToX enToY tiTouching tiLyingAlong tiMeetingPairs tiAlongPairs tiSize evX evY evLower evBundle evCrossingOf evEventOf evLeftEvent evRightEvent evSize evCrossings evSegmentsNow grDegree grEdges y8 y9 y10 huX huY huSize huBestX huBestY S Rw) H := hP
      replace hD : va_D (xsF X) (wK X kIsKept kIsStale hiLatest hiSize scBytes scTold scLength scFault scAt scNumber piSegmentsNow enKind enX enY enLower enFromX enFromY enToX enToY tiTouching tiLyingAlong tiMeetingPairs tiAlongPairs tiSize evX evY evLower evBundle evCrossingOf evEventOf evLeftEvent evRightEvent evSize evCrossings evSegmentsNow grDegree grEdges y8 y9 y10 huX huY huSize huBestX huBestY S Rw) := hD
      unfold fX2_distance_L40 at hf
      refine lv_iload hx hb dX2_distance_40 (lv_at hl 3 rfl) ?_
      refine lv_aload_n hx hb dX2_distance_42 rfl (lv_at hl 0 rfl) ?_
      refine xg_X2_25 C hP dX2_distance_43 ?_
      refine lv_icmp_ge (tgt := 77) hx hb dX2_distance_46 (by decide) (fun c22 => ?_) (fun c22 => ?_)
      · replace hf := xsBr_t c22 hf
        have ez := hx11 _ (Option.some.inj hf).symm
        subst ez
        exact K11 y8 y9 y10 hk11 H locs ls hP hD hS (lv_sub hl [0, 2] rfl)
      · replace hf := xsBr_f c22 hf
        refine lv_aload_n hx hb dX2_distance_49 rfl (lv_at hl 0 rfl) ?_
        refine xg_X2_15 C hP dX2_distance_50 ?_
        refine lv_iload_n hx hb dX2_distance_53 rfl (lv_at hl 2 rfl) ?_
        replace hf := xsCk_use hf
        obtain ⟨h16, hf⟩ := hf
        refine xl_grFar C hP h16 dX2_distance_54 ?_
        refine lv_iconst (v := (-1 : Int32)) hx hb dX2_distance_55 (by decide) ?_
        refine lv_icmp_ne (tgt := 77) hx hb dX2_distance_56 (by decide) (fun c21 => ?_) (fun c21 => ?_)
        · replace hf := xsBr_f c21 hf
          have ez := hx11 _ (Option.some.inj hf).symm
          subst ez
          exact K11 y8 y9 y10 hk11 H locs ls hP hD hS (lv_sub hl [0, 2] rfl)
        · replace hf := xsBr_t c21 hf
          refine lv_aload_n hx hb dX2_distance_59 rfl (lv_at hl 0 rfl) ?_
          refine lv_aload_n hx hb dX2_distance_60 rfl (lv_at hl 1 rfl) ?_
          refine lv_aload_n hx hb dX2_distance_61 rfl (lv_at hl 0 rfl) ?_
          refine xg_X2_18 C hP dX2_distance_62 ?_
          refine lv_iload hx hb dX2_distance_65 (lv_at hl 3 rfl) ?_
          replace hf := xsCk_use hf
          obtain ⟨h17, hf⟩ := hf
          refine xl_grQueue C hP h17 dX2_distance_67 ?_
          replace hf := xsBd_use hf
          obtain ⟨o18, h19, hf⟩ := hf
          refine xs_callv hS (xs_runV (As := [.ref (xsA X 11), .int (y9 y7.toNatClampNeg)]) C (mX2_reachAround l  h19) w_1220 w_1222 w_31 w_113 w_1223 hd_X2_reachAround ⟨rfl, rfl, Nat.le_of_ble_eq_true rfl, Nat.le_of_ble_eq_true rfl, Nat.zero_le _, Nat.zero_le _⟩ hP hD hS lk_X2 rfl hl.1 rfl (Nat.le_of_ble_eq_true rfl) dX2_distance_68) (fun H locs hP hD hS => ?_)
          obtain ⟨x20, ex20⟩ : ∃ y : Int32, y = y7 + (1 : Int32) := ⟨_, rfl⟩
          replace hf := xsLt_use ex20 hf
          refine lv_iinc (v := x20) (lv' := [(4, .int x20), (0, .ref (xsA X 20)), (1, .ref (xsA X 11)), (3, .int a2)]) hx hb dX2_distance_71 hl (k := 3) rfl (by rw [ex20]; rfl) (by decide) rfl (fun ls hl => ?_)
          refine lv_goto (tgt := 40) hx hb dX2_distance_74 (by decide) ?_
          exact ih11 _ (Option.some.inj hf).symm hk11 H locs ls hP hD hS (lv_sub hl [1, 2, 3, 0] rfl)
    exact L11 ((0 : Int32), o5.1, o5.2.1, o5.2.2) r11 hk110 hf H locs ls hP hD hS (lv_sub hl [1, 2, 4, 0] rfl)
  replace hf := xsBd_use hf
  obtain ⟨r3, hk30, hf⟩ := hf
  have L3 : ∀ (sg : Int32 × (Nat → Int32)) (rg : (Nat → Int32)), xsWh (fun s3 => fX2_distance_L3 evSize s3.1 s3.2) sg = some rg → (fX2_distance_J26 evBundle evSize grQueue a1 a2 rg = some out → ∀ (H : Heap) (locs : List Loc) (ls : Array Slot), va_P (xsD X) vwCl (wK X kIsKept kIsStale hiLatest hiSize scBytes scTold scLength scFault scAt scNumber piSegmentsNow enKind enX enY enLower enFromX enFromY enToX enToY tiTouching tiLyingAlong tiMeetingPairs tiAlongPairs tiSize evX evY evLower evBundle evCrossingOf evEventOf evLeftEvent evRightEvent evSize evCrossings evSegmentsNow grDegree grEdges sg.2 grQueue grQueued huX huY huSize huBestX huBestY S Rw) H → va_D (xsF X) (wK X kIsKept kIsStale hiLatest hiSize scBytes scTold scLength scFault scAt scNumber piSegmentsNow enKind enX enY enLower enFromX enFromY enToX enToY tiTouching tiLyingAlong tiMeetingPairs tiAlongPairs tiSize evX evY evLower evBundle evCrossingOf evEventOf evLeftEvent evRightEvent evSize evCrossings evSegmentsNow grDegree grEdges sg.2 grQueue grQueued huX huY huSize huBestX huBestY S Rw) → va_S (xsF X) s.heap H locs → lv_has ls 5 [(0, .ref (xsA X 20)), (1, .ref (xsA X 11)), (2, .int a1), (3, .int a2), (4, .int sg.1)] → W p l e { frames := 2, cells := 0, slots := 0, locals := 47 } s m ([.ref (xsA X 20), .ref (xsA X 11), .int a1, .int a2] : List Value).toArray below meth c H locs 0 0 (MQ below Qq ([.ref (xsA X 20), .ref (xsA X 11), .int a1, .int a2] : List Value).toArray s 0 0 (xsF X)) (F0 m 3 ls [])) := by
    refine xsWh_ind ?_
    intro sg r3 u3 hf ih3 hx3 hk3 H locs ls hP hD hS hl
    obtain ⟨y1, y2⟩ := sg
    replace hf : fX2_distance_L3 evSize y1 y2 = some u3 := hf
    replace hl : lv_has ls 5 [(0, .ref (xsA X 20)), (1, .ref (xsA X 11)), (2, .int a1), (3, .int a2), (4, .int y1)] := hl
    replace hP : va_P (xsD X) vwCl (wK X kIsKept kIsStale hiLatest hiSize scBytes scTold scLength scFault scAt scNumber piSegmentsNow enKind enX enY enLower enFromX enFromY enToX enToY tiTouching tiLyingAlong tiMeetingPairs tiAlongPairs tiSize evX evY evLower evBundle evCrossingOf evEventOf evLeftEvent evRightEvent evSize evCrossings evSegmentsNow grDegree grEdges y2 grQueue grQueued huX huY huSize huBestX huBestY S Rw) H := hP
    replace hD : va_D (xsF X) (wK X kIsKept kIsStale hiLatest hiSize scBytes scTold scLength scFault scAt scNumber piSegmentsNow enKind enX enY enLower enFromX enFromY enToX enToY tiTouching tiLyingAlong tiMeetingPairs tiAlongPairs tiSize evX evY evLower evBundle evCrossingOf evEventOf evLeftEvent evRightEvent evSize evCrossings evSegmentsNow grDegree grEdges y2 grQueue grQueued huX huY huSize huBestX huBestY S Rw) := hD
    unfold fX2_distance_L3 at hf
    refine lv_iload hx hb dX2_distance_3 (lv_at hl 4 rfl) ?_
    refine lv_aload_n hx hb dX2_distance_5 rfl (lv_at hl 1 rfl) ?_
    refine xg_X2_28 C hP dX2_distance_6 ?_
    refine lv_icmp_ge (tgt := 26) hx hb dX2_distance_9 (by decide) (fun c26 => ?_) (fun c26 => ?_)
    · replace hf := xsBr_t c26 hf
      have ez := hx3 _ (Option.some.inj hf).symm
      subst ez
      exact K3 y2 hk3 H locs ls hP hD hS (lv_sub hl [0, 1, 2, 3] rfl)
    · replace hf := xsBr_f c26 hf
      refine lv_aload_n hx hb dX2_distance_12 rfl (lv_at hl 0 rfl) ?_
      refine xg_X2_15 C hP dX2_distance_13 ?_
      refine lv_iload hx hb dX2_distance_16 (lv_at hl 4 rfl) ?_
      refine lv_iconst (v := (-1 : Int32)) hx hb dX2_distance_18 (by decide) ?_
      replace hf := xsCk_use hf
      obtain ⟨h23, hf⟩ := hf
      refine xs_grFar C hP hD hS h23 dX2_distance_19 (fun f24 ef24 H locs hP hD hS => ?_)
      replace hf := xsLt_use ef24 hf
      obtain ⟨x25, ex25⟩ : ∃ y : Int32, y = y1 + (1 : Int32) := ⟨_, rfl⟩
      replace hf := xsLt_use ex25 hf
      refine lv_iinc (v := x25) (lv' := [(4, .int x25), (0, .ref (xsA X 20)), (1, .ref (xsA X 11)), (2, .int a1), (3, .int a2)]) hx hb dX2_distance_20 hl (k := 4) rfl (by rw [ex25]; rfl) (by decide) rfl (fun ls hl => ?_)
      refine lv_goto (tgt := 3) hx hb dX2_distance_23 (by decide) ?_
      exact ih3 _ (Option.some.inj hf).symm hk3 H locs ls hP hD hS (lv_sub hl [1, 2, 3, 4, 0] rfl)
  exact L3 ((0 : Int32), grFar) r3 hk30 hf H locs ls hP hD hS (lv_sub hl [1, 2, 3, 4, 0] rfl)
set_option maxRecDepth 100000 in
set_option maxHeartbeats 8000000 in
theorem mX3_forget (l : Launch) {X : xsX} {kIsKept kIsStale hiLatest hiSize scLength scFault scAt scNumber piSegmentsNow enKind enFromX enFromY enToX enToY tiMeetingPairs tiAlongPairs tiSize evSize evCrossings evSegmentsNow grEdges grQueued huSize huBestX huBestY : Int32} {scBytes scTold tiTouching tiLyingAlong evBundle evCrossingOf evEventOf evLeftEvent evRightEvent grDegree grFar grQueue huX huY : Nat → Int32} {enX enY enLower : Int64} {evX evY evLower : Nat → Int64} {S : Nat → xsV} {Rw : va_W} {out : Int32} (hf : fX3_forget hiSize = some out) : Met l yX3_forget (xsWs yX3_forget cX3_forget 1 none) { frames := 0, cells := 0, slots := 0, locals := 0 } (xsP X (wK X kIsKept kIsStale hiLatest hiSize scBytes scTold scLength scFault scAt scNumber piSegmentsNow enKind enX enY enLower enFromX enFromY enToX enToY tiTouching tiLyingAlong tiMeetingPairs tiAlongPairs tiSize evX evY evLower evBundle evCrossingOf evEventOf evLeftEvent evRightEvent evSize evCrossings evSegmentsNow grDegree grEdges grFar grQueue grQueued huX huY huSize huBestX huBestY S Rw) [.ref (xsA X 1)]) (xsQv X (wK X kIsKept kIsStale hiLatest out scBytes scTold scLength scFault scAt scNumber piSegmentsNow enKind enX enY enLower enFromX enFromY enToX enToY tiTouching tiLyingAlong tiMeetingPairs tiAlongPairs tiSize evX evY evLower evBundle evCrossingOf evEventOf evLeftEvent evRightEvent evSize evCrossings evSegmentsNow grDegree grEdges grFar grQueue grQueued huX huY huSize huBestX huBestY S Rw)) 0 0 (xsF X) := by
  refine xs_meth RX3 (by decide) rfl (Nat.le_of_ble_eq_true rfl) ?_
  intro p e s m below meth c ls H locs C hP hD hS hr hlk hl
  have hx := C.1
  have hb := C.2.1
  have hl : lv_has ls 1 [(0, .ref (xsA X 1))] := hl
  obtain ⟨Qq, hQq⟩ : ∃ Qq, Qq = xsQv X (wK X kIsKept kIsStale hiLatest out scBytes scTold scLength scFault scAt scNumber piSegmentsNow enKind enX enY enLower enFromX enFromY enToX enToY tiTouching tiLyingAlong tiMeetingPairs tiAlongPairs tiSize evX evY evLower evBundle evCrossingOf evEventOf evLeftEvent evRightEvent evSize evCrossings evSegmentsNow grDegree grEdges grFar grQueue grQueued huX huY huSize huBestX huBestY S Rw) := ⟨_, rfl⟩
  rw [← hQq]
  unfold fX3_forget at hf
  refine lv_aload_n hx hb dX3_forget_0 rfl (lv_at hl 0 rfl) ?_
  refine lv_iconst (v := (0 : Int32)) hx hb dX3_forget_1 (by decide) ?_
  refine xp_X3_22 C hP hD hS dX3_forget_2 (fun H locs hP hD hS => ?_)
  have ho := Option.some.inj hf
  subst ho
  rw [hQq]
  exact xs_vret C hr hlk hP hD hS dX3_forget_5
set_option maxRecDepth 100000 in
set_option maxHeartbeats 8000000 in
theorem mX4_findLeast (l : Launch) {X : xsX} {kIsKept kIsStale hiLatest hiSize scLength scFault scAt scNumber piSegmentsNow enKind enFromX enFromY enToX enToY tiMeetingPairs tiAlongPairs tiSize evSize evCrossings evSegmentsNow grEdges grQueued huSize huBestX huBestY : Int32} {scBytes scTold tiTouching tiLyingAlong evBundle evCrossingOf evEventOf evLeftEvent evRightEvent grDegree grFar grQueue huX huY : Nat → Int32} {enX enY enLower : Int64} {evX evY evLower : Nat → Int64} {S : Nat → xsV} {Rw : va_W} {js : Nat} (hjs : js < 12) {sLx sLy sRx sRy sTi : Nat → Int32} {sSz : Int32} (hs_s : S js = (sLx, sLy, sRx, sRy, sTi, sSz)) {out : Int32 × Int32} (hf : fX4_findLeast huBestX huBestY sLx sLy sSz = some out) : Met l yX4_findLeast (xsWs yX4_findLeast cX4_findLeast 3 none) { frames := 0, cells := 0, slots := 0, locals := 0 } (xsP X (wK X kIsKept kIsStale hiLatest hiSize scBytes scTold scLength scFault scAt scNumber piSegmentsNow enKind enX enY enLower enFromX enFromY enToX enToY tiTouching tiLyingAlong tiMeetingPairs tiAlongPairs tiSize evX evY evLower evBundle evCrossingOf evEventOf evLeftEvent evRightEvent evSize evCrossings evSegmentsNow grDegree grEdges grFar grQueue grQueued huX huY huSize huBestX huBestY S Rw) [.ref (xsA X 24), .ref (xsA X (27 + 6 * js))]) (xsQv X (wK X kIsKept kIsStale hiLatest hiSize scBytes scTold scLength scFault scAt scNumber piSegmentsNow enKind enX enY enLower enFromX enFromY enToX enToY tiTouching tiLyingAlong tiMeetingPairs tiAlongPairs tiSize evX evY evLower evBundle evCrossingOf evEventOf evLeftEvent evRightEvent evSize evCrossings evSegmentsNow grDegree grEdges grFar grQueue grQueued huX huY huSize out.1 out.2 S Rw)) 0 0 (xsF X) := by
  refine xs_meth RX4 (by decide) rfl (Nat.le_of_ble_eq_true rfl) ?_
  intro p e s m below meth c ls H locs C hP hD hS hr hlk hl
  have hx := C.1
  have hb := C.2.1
  have hl : lv_has ls 3 [(0, .ref (xsA X 24)), (1, .ref (xsA X (27 + 6 * js)))] := hl
  obtain ⟨Qq, hQq⟩ : ∃ Qq, Qq = xsQv X (wK X kIsKept kIsStale hiLatest hiSize scBytes scTold scLength scFault scAt scNumber piSegmentsNow enKind enX enY enLower enFromX enFromY enToX enToY tiTouching tiLyingAlong tiMeetingPairs tiAlongPairs tiSize evX evY evLower evBundle evCrossingOf evEventOf evLeftEvent evRightEvent evSize evCrossings evSegmentsNow grDegree grEdges grFar grQueue grQueued huX huY huSize out.1 out.2 S Rw) := ⟨_, rfl⟩
  rw [← hQq]
  unfold fX4_findLeast at hf
  refine lv_aload_n hx hb dX4_findLeast_0 rfl (lv_at hl 0 rfl) ?_
  refine lv_aload_n hx hb dX4_findLeast_1 rfl (lv_at hl 1 rfl) ?_
  refine xg_X4_35 (j := js) hjs C hP dX4_findLeast_2 ?_
  refine lv_iconst (v := (0 : Int32)) hx hb dX4_findLeast_5 (by decide) ?_
  replace hf := xsCk_use hf
  obtain ⟨h1, hf⟩ := hf
  refine xl_s0 (j := js) hjs hs_s C hP h1 dX4_findLeast_6 ?_
  refine lv_topi (fun x2 ex2 => ?_)
  replace hf := xsLt_use ex2 hf
  refine xp_X4_22 C hP hD hS dX4_findLeast_7 (fun H locs hP hD hS => ?_)
  refine lv_aload_n hx hb dX4_findLeast_10 rfl (lv_at hl 0 rfl) ?_
  refine lv_aload_n hx hb dX4_findLeast_11 rfl (lv_at hl 1 rfl) ?_
  refine xg_X4_38 (j := js) hjs C hP dX4_findLeast_12 ?_
  refine lv_iconst (v := (0 : Int32)) hx hb dX4_findLeast_15 (by decide) ?_
  replace hf := xsCk_use hf
  obtain ⟨h3, hf⟩ := hf
  refine xl_s1 (j := js) hjs hs_s C hP h3 dX4_findLeast_16 ?_
  refine lv_topi (fun x4 ex4 => ?_)
  replace hf := xsLt_use ex4 hf
  refine xp_X4_25 C hP hD hS dX4_findLeast_17 (fun H locs hP hD hS => ?_)
  refine lv_iconst (v := (1 : Int32)) hx hb dX4_findLeast_20 (by decide) ?_
  refine lv_istore_n (lv' := [(2, .int (1 : Int32)), (0, .ref (xsA X 24)), (1, .ref (xsA X (27 + 6 * js)))]) hx hb dX4_findLeast_21 rfl hl (by decide) rfl (fun ls hl => ?_)
  have K8 : ∀ (y9 : Int32) (y10 : Int32) (hf : fX4_findLeast_J95 y9 y10 = some out) (H : Heap) (locs : List Loc) (ls : Array Slot), va_P (xsD X) vwCl (wK X kIsKept kIsStale hiLatest hiSize scBytes scTold scLength scFault scAt scNumber piSegmentsNow enKind enX enY enLower enFromX enFromY enToX enToY tiTouching tiLyingAlong tiMeetingPairs tiAlongPairs tiSize evX evY evLower evBundle evCrossingOf evEventOf evLeftEvent evRightEvent evSize evCrossings evSegmentsNow grDegree grEdges grFar grQueue grQueued huX huY huSize y9 y10 S Rw) H → va_D (xsF X) (wK X kIsKept kIsStale hiLatest hiSize scBytes scTold scLength scFault scAt scNumber piSegmentsNow enKind enX enY enLower enFromX enFromY enToX enToY tiTouching tiLyingAlong tiMeetingPairs tiAlongPairs tiSize evX evY evLower evBundle evCrossingOf evEventOf evLeftEvent evRightEvent evSize evCrossings evSegmentsNow grDegree grEdges grFar grQueue grQueued huX huY huSize y9 y10 S Rw) → va_S (xsF X) s.heap H locs → lv_has ls 3 [] → W p l e { frames := 0, cells := 0, slots := 0, locals := 0 } s m ([.ref (xsA X 24), .ref (xsA X (27 + 6 * js))] : List Value).toArray below meth c H locs 0 0 (MQ below Qq ([.ref (xsA X 24), .ref (xsA X (27 + 6 * js))] : List Value).toArray s 0 0 (xsF X)) (F0 m 95 ls []) := by
    intro y9 y10 hf H locs ls hP hD hS hl
    unfold fX4_findLeast_J95 at hf
    have ho := Option.some.inj hf
    subst ho
    rw [hQq]
    exact xs_vret C hr hlk hP hD hS dX4_findLeast_95
  replace hf := xsBd_use hf
  obtain ⟨r8, hk80, hf⟩ := hf
  have L8 : ∀ (sg : Int32 × Int32 × Int32) (rg : Int32 × Int32), xsWh (fun s8 => fX4_findLeast_L22 sLx sLy sSz s8.1 s8.2.1 s8.2.2) sg = some rg → (fX4_findLeast_J95 rg.1 rg.2 = some out → ∀ (H : Heap) (locs : List Loc) (ls : Array Slot), va_P (xsD X) vwCl (wK X kIsKept kIsStale hiLatest hiSize scBytes scTold scLength scFault scAt scNumber piSegmentsNow enKind enX enY enLower enFromX enFromY enToX enToY tiTouching tiLyingAlong tiMeetingPairs tiAlongPairs tiSize evX evY evLower evBundle evCrossingOf evEventOf evLeftEvent evRightEvent evSize evCrossings evSegmentsNow grDegree grEdges grFar grQueue grQueued huX huY huSize sg.2.1 sg.2.2 S Rw) H → va_D (xsF X) (wK X kIsKept kIsStale hiLatest hiSize scBytes scTold scLength scFault scAt scNumber piSegmentsNow enKind enX enY enLower enFromX enFromY enToX enToY tiTouching tiLyingAlong tiMeetingPairs tiAlongPairs tiSize evX evY evLower evBundle evCrossingOf evEventOf evLeftEvent evRightEvent evSize evCrossings evSegmentsNow grDegree grEdges grFar grQueue grQueued huX huY huSize sg.2.1 sg.2.2 S Rw) → va_S (xsF X) s.heap H locs → lv_has ls 3 [(0, .ref (xsA X 24)), (1, .ref (xsA X (27 + 6 * js))), (2, .int sg.1)] → W p l e { frames := 0, cells := 0, slots := 0, locals := 0 } s m ([.ref (xsA X 24), .ref (xsA X (27 + 6 * js))] : List Value).toArray below meth c H locs 0 0 (MQ below Qq ([.ref (xsA X 24), .ref (xsA X (27 + 6 * js))] : List Value).toArray s 0 0 (xsF X)) (F0 m 22 ls [])) := by
    refine xsWh_ind ?_
    intro sg r8 u8 hf ih8 hx8 hk8 H locs ls hP hD hS hl
    obtain ⟨y5, y6, y7⟩ := sg
    replace hf : fX4_findLeast_L22 sLx sLy sSz y5 y6 y7 = some u8 := hf
    replace hl : lv_has ls 3 [(0, .ref (xsA X 24)), (1, .ref (xsA X (27 + 6 * js))), (2, .int y5)] := hl
    replace hP : va_P (xsD X) vwCl (wK X kIsKept kIsStale hiLatest hiSize scBytes scTold scLength scFault scAt scNumber piSegmentsNow enKind enX enY enLower enFromX enFromY enToX enToY tiTouching tiLyingAlong tiMeetingPairs tiAlongPairs tiSize evX evY evLower evBundle evCrossingOf evEventOf evLeftEvent evRightEvent evSize evCrossings evSegmentsNow grDegree grEdges grFar grQueue grQueued huX huY huSize y6 y7 S Rw) H := hP
    replace hD : va_D (xsF X) (wK X kIsKept kIsStale hiLatest hiSize scBytes scTold scLength scFault scAt scNumber piSegmentsNow enKind enX enY enLower enFromX enFromY enToX enToY tiTouching tiLyingAlong tiMeetingPairs tiAlongPairs tiSize evX evY evLower evBundle evCrossingOf evEventOf evLeftEvent evRightEvent evSize evCrossings evSegmentsNow grDegree grEdges grFar grQueue grQueued huX huY huSize y6 y7 S Rw) := hD
    unfold fX4_findLeast_L22 at hf
    refine lv_iload_n hx hb dX4_findLeast_22 rfl (lv_at hl 2 rfl) ?_
    refine lv_aload_n hx hb dX4_findLeast_23 rfl (lv_at hl 1 rfl) ?_
    refine xg_X4_28 (j := js) hjs hs_s C hP dX4_findLeast_24 ?_
    refine lv_icmp_ge (tgt := 95) hx hb dX4_findLeast_27 (by decide) (fun c28 => ?_) (fun c28 => ?_)
    · replace hf := xsBr_t c28 hf
      have ez := hx8 _ (Option.some.inj hf).symm
      subst ez
      exact K8 y6 y7 hk8 H locs ls hP hD hS (lv_sub hl [] rfl)
    · replace hf := xsBr_f c28 hf
      refine lv_aload_n hx hb dX4_findLeast_30 rfl (lv_at hl 1 rfl) ?_
      refine xg_X4_35 (j := js) hjs C hP dX4_findLeast_31 ?_
      refine lv_iload_n hx hb dX4_findLeast_34 rfl (lv_at hl 2 rfl) ?_
      replace hf := xsCk_use hf
      obtain ⟨h11, hf⟩ := hf
      refine xl_s0 (j := js) hjs hs_s C hP h11 dX4_findLeast_35 ?_
      refine lv_aload_n hx hb dX4_findLeast_36 rfl (lv_at hl 0 rfl) ?_
      refine xg_X4_22 C hP dX4_findLeast_37 ?_
      have K17 : ∀ (y12 : Int32) (y13 : Int32) (hf : fX4_findLeast_J89 y5 y12 y13 = some u8) (H : Heap) (locs : List Loc) (ls : Array Slot), va_P (xsD X) vwCl (wK X kIsKept kIsStale hiLatest hiSize scBytes scTold scLength scFault scAt scNumber piSegmentsNow enKind enX enY enLower enFromX enFromY enToX enToY tiTouching tiLyingAlong tiMeetingPairs tiAlongPairs tiSize evX evY evLower evBundle evCrossingOf evEventOf evLeftEvent evRightEvent evSize evCrossings evSegmentsNow grDegree grEdges grFar grQueue grQueued huX huY huSize y12 y13 S Rw) H → va_D (xsF X) (wK X kIsKept kIsStale hiLatest hiSize scBytes scTold scLength scFault scAt scNumber piSegmentsNow enKind enX enY enLower enFromX enFromY enToX enToY tiTouching tiLyingAlong tiMeetingPairs tiAlongPairs tiSize evX evY evLower evBundle evCrossingOf evEventOf evLeftEvent evRightEvent evSize evCrossings evSegmentsNow grDegree grEdges grFar grQueue grQueued huX huY huSize y12 y13 S Rw) → va_S (xsF X) s.heap H locs → lv_has ls 3 [(0, .ref (xsA X 24)), (1, .ref (xsA X (27 + 6 * js))), (2, .int y5)] → W p l e { frames := 0, cells := 0, slots := 0, locals := 0 } s m ([.ref (xsA X 24), .ref (xsA X (27 + 6 * js))] : List Value).toArray below meth c H locs 0 0 (MQ below Qq ([.ref (xsA X 24), .ref (xsA X (27 + 6 * js))] : List Value).toArray s 0 0 (xsF X)) (F0 m 89 ls []) := by
        intro y12 y13 hf H locs ls hP hD hS hl
        unfold fX4_findLeast_J89 at hf
        obtain ⟨x14, ex14⟩ : ∃ y : Int32, y = y5 + (1 : Int32) := ⟨_, rfl⟩
        replace hf := xsLt_use ex14 hf
        refine lv_iinc (v := x14) (lv' := [(2, .int x14), (0, .ref (xsA X 24)), (1, .ref (xsA X (27 + 6 * js)))]) hx hb dX4_findLeast_89 hl (k := 2) rfl (by rw [ex14]; rfl) (by decide) rfl (fun ls hl => ?_)
        refine lv_goto (tgt := 22) hx hb dX4_findLeast_92 (by decide) ?_
        exact ih8 _ (Option.some.inj hf).symm hk8 H locs ls hP hD hS (lv_sub hl [1, 2, 0] rfl)
      replace hf := xsBd_use hf
      obtain ⟨v15, hf, hk16⟩ := hf
      have K22 : ∀ (hf : fX4_findLeast_J69 sLx sLy y5 = some v15) (H : Heap) (locs : List Loc) (ls : Array Slot), va_P (xsD X) vwCl (wK X kIsKept kIsStale hiLatest hiSize scBytes scTold scLength scFault scAt scNumber piSegmentsNow enKind enX enY enLower enFromX enFromY enToX enToY tiTouching tiLyingAlong tiMeetingPairs tiAlongPairs tiSize evX evY evLower evBundle evCrossingOf evEventOf evLeftEvent evRightEvent evSize evCrossings evSegmentsNow grDegree grEdges grFar grQueue grQueued huX huY huSize y6 y7 S Rw) H → va_D (xsF X) (wK X kIsKept kIsStale hiLatest hiSize scBytes scTold scLength scFault scAt scNumber piSegmentsNow enKind enX enY enLower enFromX enFromY enToX enToY tiTouching tiLyingAlong tiMeetingPairs tiAlongPairs tiSize evX evY evLower evBundle evCrossingOf evEventOf evLeftEvent evRightEvent evSize evCrossings evSegmentsNow grDegree grEdges grFar grQueue grQueued huX huY huSize y6 y7 S Rw) → va_S (xsF X) s.heap H locs → lv_has ls 3 [(0, .ref (xsA X 24)), (1, .ref (xsA X (27 + 6 * js))), (2, .int y5)] → W p l e { frames := 0, cells := 0, slots := 0, locals := 0 } s m ([.ref (xsA X 24), .ref (xsA X (27 + 6 * js))] : List Value).toArray below meth c H locs 0 0 (MQ below Qq ([.ref (xsA X 24), .ref (xsA X (27 + 6 * js))] : List Value).toArray s 0 0 (xsF X)) (F0 m 69 ls []) := by
        intro hf H locs ls hP hD hS hl
        unfold fX4_findLeast_J69 at hf
        refine lv_aload_n hx hb dX4_findLeast_69 rfl (lv_at hl 0 rfl) ?_
        refine lv_aload_n hx hb dX4_findLeast_70 rfl (lv_at hl 1 rfl) ?_
        refine xg_X4_35 (j := js) hjs C hP dX4_findLeast_71 ?_
        refine lv_iload_n hx hb dX4_findLeast_74 rfl (lv_at hl 2 rfl) ?_
        replace hf := xsCk_use hf
        obtain ⟨h18, hf⟩ := hf
        refine xl_s0 (j := js) hjs hs_s C hP h18 dX4_findLeast_75 ?_
        refine lv_topi (fun x19 ex19 => ?_)
        replace hf := xsLt_use ex19 hf
        refine xp_X4_22 C hP hD hS dX4_findLeast_76 (fun H locs hP hD hS => ?_)
        refine lv_aload_n hx hb dX4_findLeast_79 rfl (lv_at hl 0 rfl) ?_
        refine lv_aload_n hx hb dX4_findLeast_80 rfl (lv_at hl 1 rfl) ?_
        refine xg_X4_38 (j := js) hjs C hP dX4_findLeast_81 ?_
        refine lv_iload_n hx hb dX4_findLeast_84 rfl (lv_at hl 2 rfl) ?_
        replace hf := xsCk_use hf
        obtain ⟨h20, hf⟩ := hf
        refine xl_s1 (j := js) hjs hs_s C hP h20 dX4_findLeast_85 ?_
        refine lv_topi (fun x21 ex21 => ?_)
        replace hf := xsLt_use ex21 hf
        refine xp_X4_25 C hP hD hS dX4_findLeast_86 (fun H locs hP hD hS => ?_)
        have ev := Option.some.inj hf
        subst ev
        exact K17 x19 x21 hk16 H locs ls hP hD hS (lv_sub hl [0, 1, 2] rfl)
      refine lv_icmp_lt (tgt := 69) hx hb dX4_findLeast_40 (by decide) (fun c27 => ?_) (fun c27 => ?_)
      · replace hf := xsBr_t c27 hf
        exact K22 hf H locs ls hP hD hS (lv_sub hl [0, 1, 2] rfl)
      · replace hf := xsBr_f c27 hf
        refine lv_aload_n hx hb dX4_findLeast_43 rfl (lv_at hl 1 rfl) ?_
        refine xg_X4_35 (j := js) hjs C hP dX4_findLeast_44 ?_
        refine lv_iload_n hx hb dX4_findLeast_47 rfl (lv_at hl 2 rfl) ?_
        replace hf := xsCk_use hf
        obtain ⟨h23, hf⟩ := hf
        refine xl_s0 (j := js) hjs hs_s C hP h23 dX4_findLeast_48 ?_
        refine lv_aload_n hx hb dX4_findLeast_49 rfl (lv_at hl 0 rfl) ?_
        refine xg_X4_22 C hP dX4_findLeast_50 ?_
        refine lv_icmp_ne (tgt := 89) hx hb dX4_findLeast_53 (by decide) (fun c26 => ?_) (fun c26 => ?_)
        · replace hf := xsBr_f c26 hf
          have ev := Option.some.inj hf
          subst ev
          exact K17 y6 y7 hk16 H locs ls hP hD hS (lv_sub hl [0, 1, 2] rfl)
        · replace hf := xsBr_t c26 hf
          refine lv_aload_n hx hb dX4_findLeast_56 rfl (lv_at hl 1 rfl) ?_
          refine xg_X4_38 (j := js) hjs C hP dX4_findLeast_57 ?_
          refine lv_iload_n hx hb dX4_findLeast_60 rfl (lv_at hl 2 rfl) ?_
          replace hf := xsCk_use hf
          obtain ⟨h24, hf⟩ := hf
          refine xl_s1 (j := js) hjs hs_s C hP h24 dX4_findLeast_61 ?_
          refine lv_aload_n hx hb dX4_findLeast_62 rfl (lv_at hl 0 rfl) ?_
          refine xg_X4_25 C hP dX4_findLeast_63 ?_
          refine lv_icmp_ge (tgt := 89) hx hb dX4_findLeast_66 (by decide) (fun c25 => ?_) (fun c25 => ?_)
          · replace hf := xsBr_t c25 hf
            have ev := Option.some.inj hf
            subst ev
            exact K17 y6 y7 hk16 H locs ls hP hD hS (lv_sub hl [0, 1, 2] rfl)
          · replace hf := xsBr_f c25 hf
            exact K22 hf H locs ls hP hD hS (lv_sub hl [0, 1, 2] rfl)
  exact L8 ((1 : Int32), x2, x4) r8 hk80 hf H locs ls hP hD hS (lv_sub hl [1, 2, 0] rfl)
