set_option maxRecDepth 100000 in
set_option maxHeartbeats 8000000 in
theorem mX10_feed (l : Launch) {X : xsX} {kIsKept kIsStale hiLatest hiSize scLength scFault scAt scNumber piSegmentsNow enKind enFromX enFromY enToX enToY tiMeetingPairs tiAlongPairs tiSize evSize evCrossings evSegmentsNow grEdges grQueued huSize huBestX huBestY : Int32} {scBytes scTold tiTouching tiLyingAlong evBundle evCrossingOf evEventOf evLeftEvent evRightEvent grDegree grFar grQueue huX huY : Nat → Int32} {enX enY enLower : Int64} {evX evY evLower : Nat → Int64} {S : Nat → xsV} {Rw : va_W} {a0 : Int32} {a1 : Int32} {a2 : Int32} {a3 : Int32} {a4 : Int32} {out : Int32 × (Nat → Int32) × Int32} (hf : fX10_feed scBytes scLength a0 a1 a2 a3 a4 = some out) : Met l yX10_feed (xsWs yX10_feed cX10_feed 6 (some .int)) { frames := 1, cells := 0, slots := 0, locals := 22 } (xsP X (wK X kIsKept kIsStale hiLatest hiSize scBytes scTold scLength scFault scAt scNumber piSegmentsNow enKind enX enY enLower enFromX enFromY enToX enToY tiTouching tiLyingAlong tiMeetingPairs tiAlongPairs tiSize evX evY evLower evBundle evCrossingOf evEventOf evLeftEvent evRightEvent evSize evCrossings evSegmentsNow grDegree grEdges grFar grQueue grQueued huX huY huSize huBestX huBestY S Rw) [.ref (xsA X 0), .int a0, .int a1, .int a2, .int a3, .int a4]) (xsQi X out.1 (wK X kIsKept kIsStale hiLatest hiSize out.2.1 scTold out.2.2 scFault scAt scNumber piSegmentsNow enKind enX enY enLower enFromX enFromY enToX enToY tiTouching tiLyingAlong tiMeetingPairs tiAlongPairs tiSize evX evY evLower evBundle evCrossingOf evEventOf evLeftEvent evRightEvent evSize evCrossings evSegmentsNow grDegree grEdges grFar grQueue grQueued huX huY huSize huBestX huBestY S Rw)) 0 0 (xsF X) := by
  refine xs_meth RX10 (by decide) rfl (Nat.le_of_ble_eq_true rfl) ?_
  intro p e s m below meth c ls H locs C hP hD hS hr hlk hl
  have hx := C.1
  have hb := C.2.1
  have hl : lv_has ls 6 [(0, .ref (xsA X 0)), (1, .int a0), (2, .int a1), (3, .int a2), (4, .int a3), (5, .int a4)] := hl
  obtain ⟨Qq, hQq⟩ : ∃ Qq, Qq = xsQi X out.1 (wK X kIsKept kIsStale hiLatest hiSize out.2.1 scTold out.2.2 scFault scAt scNumber piSegmentsNow enKind enX enY enLower enFromX enFromY enToX enToY tiTouching tiLyingAlong tiMeetingPairs tiAlongPairs tiSize evX evY evLower evBundle evCrossingOf evEventOf evLeftEvent evRightEvent evSize evCrossings evSegmentsNow grDegree grEdges grFar grQueue grQueued huX huY huSize huBestX huBestY S Rw) := ⟨_, rfl⟩
  rw [← hQq]
  unfold fX10_feed at hf
  refine lv_aload_n hx hb dX10_feed_0 rfl (lv_at hl 0 rfl) ?_
  refine xg_X10_32 C hP dX10_feed_1 ?_
  replace hf := xsBd_use hf
  obtain ⟨o1, h2, hf⟩ := hf
  refine xs_calli hS (xs_runV (As := []) C (mX6_hasRoom l  h2) w_484 w_485 w_486 w_108 w_487 hd_X6_hasRoom ⟨rfl, rfl, Nat.le_of_ble_eq_true rfl, Nat.le_of_ble_eq_true rfl, Nat.zero_le _, Nat.zero_le _⟩ hP hD hS lk_X6 rfl hl.1 rfl (Nat.le_of_ble_eq_true rfl) dX10_feed_4) (fun H locs hP hD hS => ?_)
  refine lv_if_ne (tgt := 12) hx hb dX10_feed_7 (by decide) (fun c13 => ?_) (fun c13 => ?_)
  · replace hf := xsBr_f c13 hf
    refine lv_aload_n hx hb dX10_feed_12 rfl (lv_at hl 0 rfl) ?_
    refine xg_X10_32 C hP dX10_feed_13 ?_
    refine lv_iload_n hx hb dX10_feed_16 rfl (lv_at hl 1 rfl) ?_
    replace hf := xsBd_use hf
    obtain ⟨o3, h4, hf⟩ := hf
    refine xs_callv hS (xs_runV (As := [.int a0]) C (mX6_push l  h4) w_488 w_489 w_490 w_108 w_491 hd_X6_push ⟨rfl, rfl, Nat.le_of_ble_eq_true rfl, Nat.le_of_ble_eq_true rfl, Nat.zero_le _, Nat.zero_le _⟩ hP hD hS lk_X6 rfl hl.1 rfl (Nat.le_of_ble_eq_true rfl) dX10_feed_17) (fun H locs hP hD hS => ?_)
    refine lv_aload_n hx hb dX10_feed_20 rfl (lv_at hl 0 rfl) ?_
    refine xg_X10_32 C hP dX10_feed_21 ?_
    refine lv_iload_n hx hb dX10_feed_24 rfl (lv_at hl 2 rfl) ?_
    replace hf := xsBd_use hf
    obtain ⟨o5, h6, hf⟩ := hf
    refine xs_callv hS (xs_runV (As := [.int a1]) C (mX6_push l  h6) w_488 w_489 w_490 w_108 w_491 hd_X6_push ⟨rfl, rfl, Nat.le_of_ble_eq_true rfl, Nat.le_of_ble_eq_true rfl, Nat.zero_le _, Nat.zero_le _⟩ hP hD hS lk_X6 rfl hl.1 rfl (Nat.le_of_ble_eq_true rfl) dX10_feed_25) (fun H locs hP hD hS => ?_)
    refine lv_aload_n hx hb dX10_feed_28 rfl (lv_at hl 0 rfl) ?_
    refine xg_X10_32 C hP dX10_feed_29 ?_
    refine lv_iload_n hx hb dX10_feed_32 rfl (lv_at hl 3 rfl) ?_
    replace hf := xsBd_use hf
    obtain ⟨o7, h8, hf⟩ := hf
    refine xs_callv hS (xs_runV (As := [.int a2]) C (mX6_push l  h8) w_488 w_489 w_490 w_108 w_491 hd_X6_push ⟨rfl, rfl, Nat.le_of_ble_eq_true rfl, Nat.le_of_ble_eq_true rfl, Nat.zero_le _, Nat.zero_le _⟩ hP hD hS lk_X6 rfl hl.1 rfl (Nat.le_of_ble_eq_true rfl) dX10_feed_33) (fun H locs hP hD hS => ?_)
    refine lv_aload_n hx hb dX10_feed_36 rfl (lv_at hl 0 rfl) ?_
    refine xg_X10_32 C hP dX10_feed_37 ?_
    refine lv_iload hx hb dX10_feed_40 (lv_at hl 4 rfl) ?_
    replace hf := xsBd_use hf
    obtain ⟨o9, h10, hf⟩ := hf
    refine xs_callv hS (xs_runV (As := [.int a3]) C (mX6_push l  h10) w_488 w_489 w_490 w_108 w_491 hd_X6_push ⟨rfl, rfl, Nat.le_of_ble_eq_true rfl, Nat.le_of_ble_eq_true rfl, Nat.zero_le _, Nat.zero_le _⟩ hP hD hS lk_X6 rfl hl.1 rfl (Nat.le_of_ble_eq_true rfl) dX10_feed_42) (fun H locs hP hD hS => ?_)
    refine lv_aload_n hx hb dX10_feed_45 rfl (lv_at hl 0 rfl) ?_
    refine xg_X10_32 C hP dX10_feed_46 ?_
    refine lv_iload hx hb dX10_feed_49 (lv_at hl 5 rfl) ?_
    replace hf := xsBd_use hf
    obtain ⟨o11, h12, hf⟩ := hf
    refine xs_callv hS (xs_runV (As := [.int a4]) C (mX6_push l  h12) w_488 w_489 w_490 w_108 w_491 hd_X6_push ⟨rfl, rfl, Nat.le_of_ble_eq_true rfl, Nat.le_of_ble_eq_true rfl, Nat.zero_le _, Nat.zero_le _⟩ hP hD hS lk_X6 rfl hl.1 rfl (Nat.le_of_ble_eq_true rfl) dX10_feed_51) (fun H locs hP hD hS => ?_)
    refine lv_aload_n hx hb dX10_feed_54 rfl (lv_at hl 0 rfl) ?_
    refine xg_X10_32 C hP dX10_feed_55 ?_
    refine xg_X10_65 C hP dX10_feed_58 ?_
    have ho := Option.some.inj hf
    subst ho
    rw [hQq]
    exact xs_iret C hr hlk hP hD hS dX10_feed_61
  · replace hf := xsBr_t c13 hf
    refine lv_iconst (v := (-1 : Int32)) hx hb dX10_feed_10 (by decide) ?_
    have ho := Option.some.inj hf
    subst ho
    rw [hQq]
    exact xs_iret C hr hlk hP hD hS dX10_feed_11
set_option maxRecDepth 100000 in
set_option maxHeartbeats 8000000 in
theorem mX10_end (l : Launch) {X : xsX} {kIsKept kIsStale hiLatest hiSize scLength scFault scAt scNumber piSegmentsNow enKind enFromX enFromY enToX enToY tiMeetingPairs tiAlongPairs tiSize evSize evCrossings evSegmentsNow grEdges grQueued huSize huBestX huBestY : Int32} {scBytes scTold tiTouching tiLyingAlong evBundle evCrossingOf evEventOf evLeftEvent evRightEvent grDegree grFar grQueue huX huY : Nat → Int32} {enX enY enLower : Int64} {evX evY evLower : Nat → Int64} {S : Nat → xsV} {Rw : va_W} {a0 : Int32} {out : Int32 × Int32} (hf : fX10_end scLength a0 = some out) : Met l yX10_end (xsWs yX10_end cX10_end 2 (some .boolean)) { frames := 1, cells := 0, slots := 0, locals := 21 } (xsP X (wK X kIsKept kIsStale hiLatest hiSize scBytes scTold scLength scFault scAt scNumber piSegmentsNow enKind enX enY enLower enFromX enFromY enToX enToY tiTouching tiLyingAlong tiMeetingPairs tiAlongPairs tiSize evX evY evLower evBundle evCrossingOf evEventOf evLeftEvent evRightEvent evSize evCrossings evSegmentsNow grDegree grEdges grFar grQueue grQueued huX huY huSize huBestX huBestY S Rw) [.ref (xsA X 0), .int a0]) (xsQi X out.1 (wK X kIsKept kIsStale hiLatest hiSize scBytes scTold out.2 scFault scAt scNumber piSegmentsNow enKind enX enY enLower enFromX enFromY enToX enToY tiTouching tiLyingAlong tiMeetingPairs tiAlongPairs tiSize evX evY evLower evBundle evCrossingOf evEventOf evLeftEvent evRightEvent evSize evCrossings evSegmentsNow grDegree grEdges grFar grQueue grQueued huX huY huSize huBestX huBestY S Rw)) 0 0 (xsF X) := by
  refine xs_meth RX10 (by decide) rfl (Nat.le_of_ble_eq_true rfl) ?_
  intro p e s m below meth c ls H locs C hP hD hS hr hlk hl
  have hx := C.1
  have hb := C.2.1
  have hl : lv_has ls 2 [(0, .ref (xsA X 0)), (1, .int a0)] := hl
  obtain ⟨Qq, hQq⟩ : ∃ Qq, Qq = xsQi X out.1 (wK X kIsKept kIsStale hiLatest hiSize scBytes scTold out.2 scFault scAt scNumber piSegmentsNow enKind enX enY enLower enFromX enFromY enToX enToY tiTouching tiLyingAlong tiMeetingPairs tiAlongPairs tiSize evX evY evLower evBundle evCrossingOf evEventOf evLeftEvent evRightEvent evSize evCrossings evSegmentsNow grDegree grEdges grFar grQueue grQueued huX huY huSize huBestX huBestY S Rw) := ⟨_, rfl⟩
  rw [← hQq]
  unfold fX10_end at hf
  refine lv_aload_n hx hb dX10_end_0 rfl (lv_at hl 0 rfl) ?_
  refine xg_X10_32 C hP dX10_end_1 ?_
  refine lv_iload_n hx hb dX10_end_4 rfl (lv_at hl 1 rfl) ?_
  replace hf := xsBd_use hf
  obtain ⟨o1, h2, hf⟩ := hf
  refine xs_calli hS (xs_runV (As := [.int a0]) C (mX6_shorten l  h2) w_496 w_497 w_498 w_108 w_499 hd_X6_shorten ⟨rfl, rfl, Nat.le_of_ble_eq_true rfl, Nat.le_of_ble_eq_true rfl, Nat.zero_le _, Nat.zero_le _⟩ hP hD hS lk_X6 rfl hl.1 rfl (Nat.le_of_ble_eq_true rfl) dX10_end_5) (fun H locs hP hD hS => ?_)
  replace hf := xsCk_use hf
  obtain ⟨h3, hf⟩ := hf
  have ho := Option.some.inj hf
  subst ho
  rw [hQq]
  exact xs_zret C hr hlk h3 hP hD hS dX10_end_8
set_option maxRecDepth 100000 in
set_option maxHeartbeats 8000000 in
theorem mX10_fault (l : Launch) {X : xsX} {kIsKept kIsStale hiLatest hiSize scLength scFault scAt scNumber piSegmentsNow enKind enFromX enFromY enToX enToY tiMeetingPairs tiAlongPairs tiSize evSize evCrossings evSegmentsNow grEdges grQueued huSize huBestX huBestY : Int32} {scBytes scTold tiTouching tiLyingAlong evBundle evCrossingOf evEventOf evLeftEvent evRightEvent grDegree grFar grQueue huX huY : Nat → Int32} {enX enY enLower : Int64} {evX evY evLower : Nat → Int64} {S : Nat → xsV} {Rw : va_W} {out : Int32} (hf : fX10_fault scFault = some out) : Met l yX10_fault (xsWs yX10_fault cX10_fault 1 (some .int)) { frames := 0, cells := 0, slots := 0, locals := 0 } (xsP X (wK X kIsKept kIsStale hiLatest hiSize scBytes scTold scLength scFault scAt scNumber piSegmentsNow enKind enX enY enLower enFromX enFromY enToX enToY tiTouching tiLyingAlong tiMeetingPairs tiAlongPairs tiSize evX evY evLower evBundle evCrossingOf evEventOf evLeftEvent evRightEvent evSize evCrossings evSegmentsNow grDegree grEdges grFar grQueue grQueued huX huY huSize huBestX huBestY S Rw) [.ref (xsA X 0)]) (xsQi X out (wK X kIsKept kIsStale hiLatest hiSize scBytes scTold scLength scFault scAt scNumber piSegmentsNow enKind enX enY enLower enFromX enFromY enToX enToY tiTouching tiLyingAlong tiMeetingPairs tiAlongPairs tiSize evX evY evLower evBundle evCrossingOf evEventOf evLeftEvent evRightEvent evSize evCrossings evSegmentsNow grDegree grEdges grFar grQueue grQueued huX huY huSize huBestX huBestY S Rw)) 0 0 (xsF X) := by
  refine xs_meth RX10 (by decide) rfl (Nat.le_of_ble_eq_true rfl) ?_
  intro p e s m below meth c ls H locs C hP hD hS hr hlk hl
  have hx := C.1
  have hb := C.2.1
  have hl : lv_has ls 1 [(0, .ref (xsA X 0))] := hl
  obtain ⟨Qq, hQq⟩ : ∃ Qq, Qq = xsQi X out (wK X kIsKept kIsStale hiLatest hiSize scBytes scTold scLength scFault scAt scNumber piSegmentsNow enKind enX enY enLower enFromX enFromY enToX enToY tiTouching tiLyingAlong tiMeetingPairs tiAlongPairs tiSize evX evY evLower evBundle evCrossingOf evEventOf evLeftEvent evRightEvent evSize evCrossings evSegmentsNow grDegree grEdges grFar grQueue grQueued huX huY huSize huBestX huBestY S Rw) := ⟨_, rfl⟩
  rw [← hQq]
  unfold fX10_fault at hf
  refine lv_aload_n hx hb dX10_fault_0 rfl (lv_at hl 0 rfl) ?_
  refine xg_X10_32 C hP dX10_fault_1 ?_
  refine xg_X10_77 C hP dX10_fault_4 ?_
  have ho := Option.some.inj hf
  subst ho
  rw [hQq]
  exact xs_iret C hr hlk hP hD hS dX10_fault_7
set_option maxRecDepth 100000 in
set_option maxHeartbeats 8000000 in
theorem mX10_drawn (l : Launch) {X : xsX} {kIsKept kIsStale hiLatest hiSize scLength scFault scAt scNumber piSegmentsNow enKind enFromX enFromY enToX enToY tiMeetingPairs tiAlongPairs tiSize evSize evCrossings evSegmentsNow grEdges grQueued huSize huBestX huBestY : Int32} {scBytes scTold tiTouching tiLyingAlong evBundle evCrossingOf evEventOf evLeftEvent evRightEvent grDegree grFar grQueue huX huY : Nat → Int32} {enX enY enLower : Int64} {evX evY evLower : Nat → Int64} {S : Nat → xsV} {Rw : va_W} {g0Lx g0Ly g0Rx g0Ry g0Ti : Nat → Int32} {g0Sz : Int32} (hs_0 : S 0 = (g0Lx, g0Ly, g0Rx, g0Ry, g0Ti, g0Sz)) {out : Int32 × Int32 × Int32 × Int64 × Int64 × Int64 × Int32 × Int32 × Int32 × Int32 × (Nat → Int32) × (Nat → Int32) × Int32 × Int32 × Int32 × (Nat → Int64) × (Nat → Int64) × (Nat → Int64) × (Nat → Int32) × (Nat → Int32) × (Nat → Int32) × (Nat → Int32) × (Nat → Int32) × Int32 × Int32 × Int32 × (Nat → Int32) × Int32} (hf : fX10_drawn kIsStale piSegmentsNow enKind enX enY enLower enFromX enFromY enToX enToY tiTouching tiLyingAlong tiMeetingPairs tiAlongPairs tiSize evX evY evLower evBundle evCrossingOf evEventOf evLeftEvent evRightEvent evSize evCrossings evSegmentsNow grDegree grEdges g0Lx g0Ly g0Rx g0Ry g0Sz = some out) : Met l yX10_drawn (xsWs yX10_drawn cX10_drawn 1 (some (.object "CrossingSweep$Picture"))) { frames := 5, cells := 0, slots := 0, locals := 133 } (xsP X (wK X kIsKept kIsStale hiLatest hiSize scBytes scTold scLength scFault scAt scNumber piSegmentsNow enKind enX enY enLower enFromX enFromY enToX enToY tiTouching tiLyingAlong tiMeetingPairs tiAlongPairs tiSize evX evY evLower evBundle evCrossingOf evEventOf evLeftEvent evRightEvent evSize evCrossings evSegmentsNow grDegree grEdges grFar grQueue grQueued huX huY huSize huBestX huBestY S Rw) [.ref (xsA X 0)]) (xsQr X (xsA X 6) (wK X kIsKept out.1 hiLatest hiSize scBytes scTold scLength scFault scAt scNumber out.2.1 out.2.2.1 out.2.2.2.1 out.2.2.2.2.1 out.2.2.2.2.2.1 out.2.2.2.2.2.2.1 out.2.2.2.2.2.2.2.1 out.2.2.2.2.2.2.2.2.1 out.2.2.2.2.2.2.2.2.2.1 out.2.2.2.2.2.2.2.2.2.2.1 out.2.2.2.2.2.2.2.2.2.2.2.1 out.2.2.2.2.2.2.2.2.2.2.2.2.1 out.2.2.2.2.2.2.2.2.2.2.2.2.2.1 out.2.2.2.2.2.2.2.2.2.2.2.2.2.2.1 out.2.2.2.2.2.2.2.2.2.2.2.2.2.2.2.1 out.2.2.2.2.2.2.2.2.2.2.2.2.2.2.2.2.1 out.2.2.2.2.2.2.2.2.2.2.2.2.2.2.2.2.2.1 out.2.2.2.2.2.2.2.2.2.2.2.2.2.2.2.2.2.2.1 out.2.2.2.2.2.2.2.2.2.2.2.2.2.2.2.2.2.2.2.1 out.2.2.2.2.2.2.2.2.2.2.2.2.2.2.2.2.2.2.2.2.1 out.2.2.2.2.2.2.2.2.2.2.2.2.2.2.2.2.2.2.2.2.2.1 out.2.2.2.2.2.2.2.2.2.2.2.2.2.2.2.2.2.2.2.2.2.2.1 out.2.2.2.2.2.2.2.2.2.2.2.2.2.2.2.2.2.2.2.2.2.2.2.1 out.2.2.2.2.2.2.2.2.2.2.2.2.2.2.2.2.2.2.2.2.2.2.2.2.1 out.2.2.2.2.2.2.2.2.2.2.2.2.2.2.2.2.2.2.2.2.2.2.2.2.2.1 out.2.2.2.2.2.2.2.2.2.2.2.2.2.2.2.2.2.2.2.2.2.2.2.2.2.2.1 out.2.2.2.2.2.2.2.2.2.2.2.2.2.2.2.2.2.2.2.2.2.2.2.2.2.2.2 grFar grQueue grQueued huX huY huSize huBestX huBestY S Rw)) 0 0 (xsF X) := by
  refine xs_meth RX10 (by decide) rfl (Nat.le_of_ble_eq_true rfl) ?_
  intro p e s m below meth c ls H locs C hP hD hS hr hlk hl
  have hx := C.1
  have hb := C.2.1
  have hl : lv_has ls 1 [(0, .ref (xsA X 0))] := hl
  obtain ⟨Qq, hQq⟩ : ∃ Qq, Qq = xsQr X (xsA X 6) (wK X kIsKept out.1 hiLatest hiSize scBytes scTold scLength scFault scAt scNumber out.2.1 out.2.2.1 out.2.2.2.1 out.2.2.2.2.1 out.2.2.2.2.2.1 out.2.2.2.2.2.2.1 out.2.2.2.2.2.2.2.1 out.2.2.2.2.2.2.2.2.1 out.2.2.2.2.2.2.2.2.2.1 out.2.2.2.2.2.2.2.2.2.2.1 out.2.2.2.2.2.2.2.2.2.2.2.1 out.2.2.2.2.2.2.2.2.2.2.2.2.1 out.2.2.2.2.2.2.2.2.2.2.2.2.2.1 out.2.2.2.2.2.2.2.2.2.2.2.2.2.2.1 out.2.2.2.2.2.2.2.2.2.2.2.2.2.2.2.1 out.2.2.2.2.2.2.2.2.2.2.2.2.2.2.2.2.1 out.2.2.2.2.2.2.2.2.2.2.2.2.2.2.2.2.2.1 out.2.2.2.2.2.2.2.2.2.2.2.2.2.2.2.2.2.2.1 out.2.2.2.2.2.2.2.2.2.2.2.2.2.2.2.2.2.2.2.1 out.2.2.2.2.2.2.2.2.2.2.2.2.2.2.2.2.2.2.2.2.1 out.2.2.2.2.2.2.2.2.2.2.2.2.2.2.2.2.2.2.2.2.2.1 out.2.2.2.2.2.2.2.2.2.2.2.2.2.2.2.2.2.2.2.2.2.2.1 out.2.2.2.2.2.2.2.2.2.2.2.2.2.2.2.2.2.2.2.2.2.2.2.1 out.2.2.2.2.2.2.2.2.2.2.2.2.2.2.2.2.2.2.2.2.2.2.2.2.1 out.2.2.2.2.2.2.2.2.2.2.2.2.2.2.2.2.2.2.2.2.2.2.2.2.2.1 out.2.2.2.2.2.2.2.2.2.2.2.2.2.2.2.2.2.2.2.2.2.2.2.2.2.2.1 out.2.2.2.2.2.2.2.2.2.2.2.2.2.2.2.2.2.2.2.2.2.2.2.2.2.2.2 grFar grQueue grQueued huX huY huSize huBestX huBestY S Rw) := ⟨_, rfl⟩
  rw [← hQq]
  unfold fX10_drawn at hf
  refine lv_aload_n hx hb dX10_drawn_0 rfl (lv_at hl 0 rfl) ?_
  refine xg_X10_54 C hP dX10_drawn_1 ?_
  have K31 : ∀ (y1 : Int32) (y2 : Int32) (y3 : Int32) (y4 : Int64) (y5 : Int64) (y6 : Int64) (y7 : Int32) (y8 : Int32) (y9 : Int32) (y10 : Int32) (y11 : Nat → Int32) (y12 : Nat → Int32) (y13 : Int32) (y14 : Int32) (y15 : Int32) (y16 : Nat → Int64) (y17 : Nat → Int64) (y18 : Nat → Int64) (y19 : Nat → Int32) (y20 : Nat → Int32) (y21 : Nat → Int32) (y22 : Nat → Int32) (y23 : Nat → Int32) (y24 : Int32) (y25 : Int32) (y26 : Int32) (y27 : Nat → Int32) (y28 : Int32) (hf : fX10_drawn_J23 y1 y2 y3 y4 y5 y6 y7 y8 y9 y10 y11 y12 y13 y14 y15 y16 y17 y18 y19 y20 y21 y22 y23 y24 y25 y26 y27 y28 = some out) (H : Heap) (locs : List Loc) (ls : Array Slot), va_P (xsD X) vwCl (wK X kIsKept y1 hiLatest hiSize scBytes scTold scLength scFault scAt scNumber y2 y3 y4 y5 y6 y7 y8 y9 y10 y11 y12 y13 y14 y15 y16 y17 y18 y19 y20 y21 y22 y23 y24 y25 y26 y27 y28 grFar grQueue grQueued huX huY huSize huBestX huBestY S Rw) H → va_D (xsF X) (wK X kIsKept y1 hiLatest hiSize scBytes scTold scLength scFault scAt scNumber y2 y3 y4 y5 y6 y7 y8 y9 y10 y11 y12 y13 y14 y15 y16 y17 y18 y19 y20 y21 y22 y23 y24 y25 y26 y27 y28 grFar grQueue grQueued huX huY huSize huBestX huBestY S Rw) → va_S (xsF X) s.heap H locs → lv_has ls 1 [(0, .ref (xsA X 0))] → W p l e { frames := 5, cells := 0, slots := 0, locals := 133 } s m ([.ref (xsA X 0)] : List Value).toArray below meth c H locs 0 0 (MQ below Qq ([.ref (xsA X 0)] : List Value).toArray s 0 0 (xsF X)) (F0 m 23 ls []) := by
    intro y1 y2 y3 y4 y5 y6 y7 y8 y9 y10 y11 y12 y13 y14 y15 y16 y17 y18 y19 y20 y21 y22 y23 y24 y25 y26 y27 y28 hf H locs ls hP hD hS hl
    unfold fX10_drawn_J23 at hf
    refine lv_aload_n hx hb dX10_drawn_23 rfl (lv_at hl 0 rfl) ?_
    refine xg_X10_39 C hP dX10_drawn_24 ?_
    have ho := Option.some.inj hf
    subst ho
    rw [hQq]
    exact xs_aret C hr hlk hP hD hS dX10_drawn_27
  replace hf := xsBd_use hf
  obtain ⟨v29, hf, hk30⟩ := hf
  refine lv_if_eq (tgt := 23) hx hb dX10_drawn_4 (by decide) (fun c34 => ?_) (fun c34 => ?_)
  · replace hf := xsBr_t c34 hf
    have ev := Option.some.inj hf
    subst ev
    exact K31 kIsStale piSegmentsNow enKind enX enY enLower enFromX enFromY enToX enToY tiTouching tiLyingAlong tiMeetingPairs tiAlongPairs tiSize evX evY evLower evBundle evCrossingOf evEventOf evLeftEvent evRightEvent evSize evCrossings evSegmentsNow grDegree grEdges hk30 H locs ls hP hD hS (lv_sub hl [0] rfl)
  · replace hf := xsBr_f c34 hf
    refine lv_aload_n hx hb dX10_drawn_7 rfl (lv_at hl 0 rfl) ?_
    refine xg_X10_39 C hP dX10_drawn_8 ?_
    refine lv_aload_n hx hb dX10_drawn_11 rfl (lv_at hl 0 rfl) ?_
    refine xg_X10_10 C hP dX10_drawn_12 ?_
    replace hf := xsBd_use hf
    obtain ⟨o32, h33, hf⟩ := hf
    refine xs_callv hS (xs_runV (As := [.ref (xsA X 27)]) C (mX5_draw l (js := 0) (by decide) hs_0 h33) w_539 w_540 w_541 w_109 w_542 hd_X5_draw ⟨rfl, rfl, Nat.le_of_ble_eq_true rfl, Nat.le_of_ble_eq_true rfl, Nat.zero_le _, Nat.zero_le _⟩ hP hD hS lk_X5 rfl hl.1 rfl (Nat.le_of_ble_eq_true rfl) dX10_drawn_15) (fun H locs hP hD hS => ?_)
    refine lv_aload_n hx hb dX10_drawn_18 rfl (lv_at hl 0 rfl) ?_
    refine lv_iconst (v := (0 : Int32)) hx hb dX10_drawn_19 (by decide) ?_
    refine xp_X10_54 xsB_0 C hP hD hS dX10_drawn_20 (fun H locs hP hD hS => ?_)
    have ev := Option.some.inj hf
    subst ev
    exact K31 (0 : Int32) o32.1 o32.2.1 o32.2.2.1 o32.2.2.2.1 o32.2.2.2.2.1 o32.2.2.2.2.2.1 o32.2.2.2.2.2.2.1 o32.2.2.2.2.2.2.2.1 o32.2.2.2.2.2.2.2.2.1 o32.2.2.2.2.2.2.2.2.2.1 o32.2.2.2.2.2.2.2.2.2.2.1 o32.2.2.2.2.2.2.2.2.2.2.2.1 o32.2.2.2.2.2.2.2.2.2.2.2.2.1 o32.2.2.2.2.2.2.2.2.2.2.2.2.2.1 o32.2.2.2.2.2.2.2.2.2.2.2.2.2.2.1 o32.2.2.2.2.2.2.2.2.2.2.2.2.2.2.2.1 o32.2.2.2.2.2.2.2.2.2.2.2.2.2.2.2.2.1 o32.2.2.2.2.2.2.2.2.2.2.2.2.2.2.2.2.2.1 o32.2.2.2.2.2.2.2.2.2.2.2.2.2.2.2.2.2.2.1 o32.2.2.2.2.2.2.2.2.2.2.2.2.2.2.2.2.2.2.2.1 o32.2.2.2.2.2.2.2.2.2.2.2.2.2.2.2.2.2.2.2.2.1 o32.2.2.2.2.2.2.2.2.2.2.2.2.2.2.2.2.2.2.2.2.2.1 o32.2.2.2.2.2.2.2.2.2.2.2.2.2.2.2.2.2.2.2.2.2.2.1 o32.2.2.2.2.2.2.2.2.2.2.2.2.2.2.2.2.2.2.2.2.2.2.2.1 o32.2.2.2.2.2.2.2.2.2.2.2.2.2.2.2.2.2.2.2.2.2.2.2.2.1 o32.2.2.2.2.2.2.2.2.2.2.2.2.2.2.2.2.2.2.2.2.2.2.2.2.2.1 o32.2.2.2.2.2.2.2.2.2.2.2.2.2.2.2.2.2.2.2.2.2.2.2.2.2.2 hk30 H locs ls hP hD hS (lv_sub hl [0] rfl)
set_option maxRecDepth 100000 in
set_option maxHeartbeats 8000000 in
theorem mX10_view (l : Launch) {X : xsX} {kIsKept kIsStale hiLatest hiSize scLength scFault scAt scNumber piSegmentsNow enKind enFromX enFromY enToX enToY tiMeetingPairs tiAlongPairs tiSize evSize evCrossings evSegmentsNow grEdges grQueued huSize huBestX huBestY : Int32} {scBytes scTold tiTouching tiLyingAlong evBundle evCrossingOf evEventOf evLeftEvent evRightEvent grDegree grFar grQueue huX huY : Nat → Int32} {enX enY enLower : Int64} {evX evY evLower : Nat → Int64} {S : Nat → xsV} {Rw : va_W} {g0Lx g0Ly g0Rx g0Ry g0Ti : Nat → Int32} {g0Sz : Int32} (hs_0 : S 0 = (g0Lx, g0Ly, g0Rx, g0Ry, g0Ti, g0Sz)) {a0 : Int32} {out : Int32 × Int32 × Int32 × Int32 × Int64 × Int64 × Int64 × Int32 × Int32 × Int32 × Int32 × (Nat → Int32) × (Nat → Int32) × Int32 × Int32 × Int32 × (Nat → Int64) × (Nat → Int64) × (Nat → Int64) × (Nat → Int32) × (Nat → Int32) × (Nat → Int32) × (Nat → Int32) × (Nat → Int32) × Int32 × Int32 × Int32 × (Nat → Int32) × Int32} (hf : fX10_view kIsStale piSegmentsNow enKind enX enY enLower enFromX enFromY enToX enToY tiTouching tiLyingAlong tiMeetingPairs tiAlongPairs tiSize evX evY evLower evBundle evCrossingOf evEventOf evLeftEvent evRightEvent evSize evCrossings evSegmentsNow grDegree grEdges g0Lx g0Ly g0Rx g0Ry g0Sz a0 = some out) : Met l yX10_view (xsWs yX10_view cX10_view 7 (some .int)) { frames := 6, cells := 0, slots := 0, locals := 153 } (xsP X (wK X kIsKept kIsStale hiLatest hiSize scBytes scTold scLength scFault scAt scNumber piSegmentsNow enKind enX enY enLower enFromX enFromY enToX enToY tiTouching tiLyingAlong tiMeetingPairs tiAlongPairs tiSize evX evY evLower evBundle evCrossingOf evEventOf evLeftEvent evRightEvent evSize evCrossings evSegmentsNow grDegree grEdges grFar grQueue grQueued huX huY huSize huBestX huBestY S Rw) [.ref (xsA X 0), .int a0]) (xsQi X out.1 (wK X kIsKept out.2.1 hiLatest hiSize scBytes scTold scLength scFault scAt scNumber out.2.2.1 out.2.2.2.1 out.2.2.2.2.1 out.2.2.2.2.2.1 out.2.2.2.2.2.2.1 out.2.2.2.2.2.2.2.1 out.2.2.2.2.2.2.2.2.1 out.2.2.2.2.2.2.2.2.2.1 out.2.2.2.2.2.2.2.2.2.2.1 out.2.2.2.2.2.2.2.2.2.2.2.1 out.2.2.2.2.2.2.2.2.2.2.2.2.1 out.2.2.2.2.2.2.2.2.2.2.2.2.2.1 out.2.2.2.2.2.2.2.2.2.2.2.2.2.2.1 out.2.2.2.2.2.2.2.2.2.2.2.2.2.2.2.1 out.2.2.2.2.2.2.2.2.2.2.2.2.2.2.2.2.1 out.2.2.2.2.2.2.2.2.2.2.2.2.2.2.2.2.2.1 out.2.2.2.2.2.2.2.2.2.2.2.2.2.2.2.2.2.2.1 out.2.2.2.2.2.2.2.2.2.2.2.2.2.2.2.2.2.2.2.1 out.2.2.2.2.2.2.2.2.2.2.2.2.2.2.2.2.2.2.2.2.1 out.2.2.2.2.2.2.2.2.2.2.2.2.2.2.2.2.2.2.2.2.2.1 out.2.2.2.2.2.2.2.2.2.2.2.2.2.2.2.2.2.2.2.2.2.2.1 out.2.2.2.2.2.2.2.2.2.2.2.2.2.2.2.2.2.2.2.2.2.2.2.1 out.2.2.2.2.2.2.2.2.2.2.2.2.2.2.2.2.2.2.2.2.2.2.2.2.1 out.2.2.2.2.2.2.2.2.2.2.2.2.2.2.2.2.2.2.2.2.2.2.2.2.2.1 out.2.2.2.2.2.2.2.2.2.2.2.2.2.2.2.2.2.2.2.2.2.2.2.2.2.2.1 out.2.2.2.2.2.2.2.2.2.2.2.2.2.2.2.2.2.2.2.2.2.2.2.2.2.2.2.1 out.2.2.2.2.2.2.2.2.2.2.2.2.2.2.2.2.2.2.2.2.2.2.2.2.2.2.2.2 grFar grQueue grQueued huX huY huSize huBestX huBestY S Rw)) 0 0 (xsF X) := by
  refine xs_meth RX10 (by decide) rfl (Nat.le_of_ble_eq_true rfl) ?_
  intro p e s m below meth c ls H locs C hP hD hS hr hlk hl
  have hx := C.1
  have hb := C.2.1
  have hl : lv_has ls 7 [(0, .ref (xsA X 0)), (1, .int a0)] := hl
  obtain ⟨Qq, hQq⟩ : ∃ Qq, Qq = xsQi X out.1 (wK X kIsKept out.2.1 hiLatest hiSize scBytes scTold scLength scFault scAt scNumber out.2.2.1 out.2.2.2.1 out.2.2.2.2.1 out.2.2.2.2.2.1 out.2.2.2.2.2.2.1 out.2.2.2.2.2.2.2.1 out.2.2.2.2.2.2.2.2.1 out.2.2.2.2.2.2.2.2.2.1 out.2.2.2.2.2.2.2.2.2.2.1 out.2.2.2.2.2.2.2.2.2.2.2.1 out.2.2.2.2.2.2.2.2.2.2.2.2.1 out.2.2.2.2.2.2.2.2.2.2.2.2.2.1 out.2.2.2.2.2.2.2.2.2.2.2.2.2.2.1 out.2.2.2.2.2.2.2.2.2.2.2.2.2.2.2.1 out.2.2.2.2.2.2.2.2.2.2.2.2.2.2.2.2.1 out.2.2.2.2.2.2.2.2.2.2.2.2.2.2.2.2.2.1 out.2.2.2.2.2.2.2.2.2.2.2.2.2.2.2.2.2.2.1 out.2.2.2.2.2.2.2.2.2.2.2.2.2.2.2.2.2.2.2.1 out.2.2.2.2.2.2.2.2.2.2.2.2.2.2.2.2.2.2.2.2.1 out.2.2.2.2.2.2.2.2.2.2.2.2.2.2.2.2.2.2.2.2.2.1 out.2.2.2.2.2.2.2.2.2.2.2.2.2.2.2.2.2.2.2.2.2.2.1 out.2.2.2.2.2.2.2.2.2.2.2.2.2.2.2.2.2.2.2.2.2.2.2.1 out.2.2.2.2.2.2.2.2.2.2.2.2.2.2.2.2.2.2.2.2.2.2.2.2.1 out.2.2.2.2.2.2.2.2.2.2.2.2.2.2.2.2.2.2.2.2.2.2.2.2.2.1 out.2.2.2.2.2.2.2.2.2.2.2.2.2.2.2.2.2.2.2.2.2.2.2.2.2.2.1 out.2.2.2.2.2.2.2.2.2.2.2.2.2.2.2.2.2.2.2.2.2.2.2.2.2.2.2.1 out.2.2.2.2.2.2.2.2.2.2.2.2.2.2.2.2.2.2.2.2.2.2.2.2.2.2.2.2 grFar grQueue grQueued huX huY huSize huBestX huBestY S Rw) := ⟨_, rfl⟩
  rw [← hQq]
  unfold fX10_view at hf
  refine lv_aload_n hx hb dX10_view_0 rfl (lv_at hl 0 rfl) ?_
  replace hf := xsBd_use hf
  obtain ⟨o1, h2, hf⟩ := hf
  refine xs_callr hS (xs_runV (As := []) C (mX10_drawn l hs_0 h2) w_535 w_537 w_2 w_105 w_538 hd_X10_drawn ⟨rfl, rfl, Nat.le_of_ble_eq_true rfl, Nat.le_of_ble_eq_true rfl, Nat.zero_le _, Nat.zero_le _⟩ hP hD hS lk_X10 rfl hl.1 rfl (Nat.le_of_ble_eq_true rfl) dX10_view_1) (fun H locs hP hD hS => ?_)
  refine xg_X10_129 C hP dX10_view_4 ?_
  refine lv_astore_n (lv' := [(2, .ref (xsA X 11)), (0, .ref (xsA X 0)), (1, .int a0)]) hx hb dX10_view_7 rfl hl (by decide) rfl (fun ls hl => ?_)
  refine lv_iconst (v := (0 : Int32)) hx hb dX10_view_8 (by decide) ?_
  refine lv_istore_n (lv' := [(3, .int (0 : Int32)), (2, .ref (xsA X 11)), (0, .ref (xsA X 0)), (1, .int a0)]) hx hb dX10_view_9 rfl hl (by decide) rfl (fun ls hl => ?_)
  refine lv_iconst (v := (-1 : Int32)) hx hb dX10_view_10 (by decide) ?_
  refine lv_istore (lv' := [(4, .int (-1 : Int32)), (3, .int (0 : Int32)), (2, .ref (xsA X 11)), (0, .ref (xsA X 0)), (1, .int a0)]) hx hb dX10_view_11 hl (by decide) rfl (fun ls hl => ?_)
  refine lv_iconst (v := (0 : Int32)) hx hb dX10_view_13 (by decide) ?_
  refine lv_istore (lv' := [(5, .int (0 : Int32)), (4, .int (-1 : Int32)), (3, .int (0 : Int32)), (2, .ref (xsA X 11)), (0, .ref (xsA X 0)), (1, .int a0)]) hx hb dX10_view_14 hl (by decide) rfl (fun ls hl => ?_)
  have K6 : ∀ (y7 : Int32) (hf : fX10_view_J86 a0 o1 y7 = some out) (H : Heap) (locs : List Loc) (ls : Array Slot), va_P (xsD X) vwCl (wK X kIsKept o1.1 hiLatest hiSize scBytes scTold scLength scFault scAt scNumber o1.2.1 o1.2.2.1 o1.2.2.2.1 o1.2.2.2.2.1 o1.2.2.2.2.2.1 o1.2.2.2.2.2.2.1 o1.2.2.2.2.2.2.2.1 o1.2.2.2.2.2.2.2.2.1 o1.2.2.2.2.2.2.2.2.2.1 o1.2.2.2.2.2.2.2.2.2.2.1 o1.2.2.2.2.2.2.2.2.2.2.2.1 o1.2.2.2.2.2.2.2.2.2.2.2.2.1 o1.2.2.2.2.2.2.2.2.2.2.2.2.2.1 o1.2.2.2.2.2.2.2.2.2.2.2.2.2.2.1 o1.2.2.2.2.2.2.2.2.2.2.2.2.2.2.2.1 o1.2.2.2.2.2.2.2.2.2.2.2.2.2.2.2.2.1 o1.2.2.2.2.2.2.2.2.2.2.2.2.2.2.2.2.2.1 o1.2.2.2.2.2.2.2.2.2.2.2.2.2.2.2.2.2.2.1 o1.2.2.2.2.2.2.2.2.2.2.2.2.2.2.2.2.2.2.2.1 o1.2.2.2.2.2.2.2.2.2.2.2.2.2.2.2.2.2.2.2.2.1 o1.2.2.2.2.2.2.2.2.2.2.2.2.2.2.2.2.2.2.2.2.2.1 o1.2.2.2.2.2.2.2.2.2.2.2.2.2.2.2.2.2.2.2.2.2.2.1 o1.2.2.2.2.2.2.2.2.2.2.2.2.2.2.2.2.2.2.2.2.2.2.2.1 o1.2.2.2.2.2.2.2.2.2.2.2.2.2.2.2.2.2.2.2.2.2.2.2.2.1 o1.2.2.2.2.2.2.2.2.2.2.2.2.2.2.2.2.2.2.2.2.2.2.2.2.2.1 o1.2.2.2.2.2.2.2.2.2.2.2.2.2.2.2.2.2.2.2.2.2.2.2.2.2.2.1 o1.2.2.2.2.2.2.2.2.2.2.2.2.2.2.2.2.2.2.2.2.2.2.2.2.2.2.2 grFar grQueue grQueued huX huY huSize huBestX huBestY S Rw) H → va_D (xsF X) (wK X kIsKept o1.1 hiLatest hiSize scBytes scTold scLength scFault scAt scNumber o1.2.1 o1.2.2.1 o1.2.2.2.1 o1.2.2.2.2.1 o1.2.2.2.2.2.1 o1.2.2.2.2.2.2.1 o1.2.2.2.2.2.2.2.1 o1.2.2.2.2.2.2.2.2.1 o1.2.2.2.2.2.2.2.2.2.1 o1.2.2.2.2.2.2.2.2.2.2.1 o1.2.2.2.2.2.2.2.2.2.2.2.1 o1.2.2.2.2.2.2.2.2.2.2.2.2.1 o1.2.2.2.2.2.2.2.2.2.2.2.2.2.1 o1.2.2.2.2.2.2.2.2.2.2.2.2.2.2.1 o1.2.2.2.2.2.2.2.2.2.2.2.2.2.2.2.1 o1.2.2.2.2.2.2.2.2.2.2.2.2.2.2.2.2.1 o1.2.2.2.2.2.2.2.2.2.2.2.2.2.2.2.2.2.1 o1.2.2.2.2.2.2.2.2.2.2.2.2.2.2.2.2.2.2.1 o1.2.2.2.2.2.2.2.2.2.2.2.2.2.2.2.2.2.2.2.1 o1.2.2.2.2.2.2.2.2.2.2.2.2.2.2.2.2.2.2.2.2.1 o1.2.2.2.2.2.2.2.2.2.2.2.2.2.2.2.2.2.2.2.2.2.1 o1.2.2.2.2.2.2.2.2.2.2.2.2.2.2.2.2.2.2.2.2.2.2.1 o1.2.2.2.2.2.2.2.2.2.2.2.2.2.2.2.2.2.2.2.2.2.2.2.1 o1.2.2.2.2.2.2.2.2.2.2.2.2.2.2.2.2.2.2.2.2.2.2.2.2.1 o1.2.2.2.2.2.2.2.2.2.2.2.2.2.2.2.2.2.2.2.2.2.2.2.2.2.1 o1.2.2.2.2.2.2.2.2.2.2.2.2.2.2.2.2.2.2.2.2.2.2.2.2.2.2.1 o1.2.2.2.2.2.2.2.2.2.2.2.2.2.2.2.2.2.2.2.2.2.2.2.2.2.2.2 grFar grQueue grQueued huX huY huSize huBestX huBestY S Rw) → va_S (xsF X) s.heap H locs → lv_has ls 7 [(1, .int a0), (3, .int y7)] → W p l e { frames := 6, cells := 0, slots := 0, locals := 153 } s m ([.ref (xsA X 0), .int a0] : List Value).toArray below meth c H locs 0 0 (MQ below Qq ([.ref (xsA X 0), .int a0] : List Value).toArray s 0 0 (xsF X)) (F0 m 86 ls []) := by
    intro y7 hf H locs ls hP hD hS hl
    unfold fX10_view_J86 at hf
    refine lv_iload_n hx hb dX10_view_86 rfl (lv_at hl 0 rfl) ?_
    refine lv_iconst (v := (-1 : Int32)) hx hb dX10_view_87 (by decide) ?_
    refine lv_icmp_ne (tgt := 95) hx hb dX10_view_88 (by decide) (fun c8 => ?_) (fun c8 => ?_)
    · replace hf := xsBr_f c8 hf
      refine lv_iconst (v := (-1 : Int32)) hx hb dX10_view_95 (by decide) ?_
      have ho := Option.some.inj hf
      subst ho
      rw [hQq]
      exact xs_iret C hr hlk hP hD hS dX10_view_96
    · replace hf := xsBr_t c8 hf
      refine lv_iload_n hx hb dX10_view_91 rfl (lv_at hl 1 rfl) ?_
      refine lv_goto (tgt := 96) hx hb dX10_view_92 (by decide) ?_
      have ho := Option.some.inj hf
      subst ho
      rw [hQq]
      exact xs_iret C hr hlk hP hD hS dX10_view_96
  replace hf := xsBd_use hf
  obtain ⟨r6, hk60, hf⟩ := hf
  have L6 : ∀ (sg : Int32 × Int32 × Int32) (rg : (Int32 × Int32 × Int32 × Int32 × Int64 × Int64 × Int64 × Int32 × Int32 × Int32 × Int32 × (Nat → Int32) × (Nat → Int32) × Int32 × Int32 × Int32 × (Nat → Int64) × (Nat → Int64) × (Nat → Int64) × (Nat → Int32) × (Nat → Int32) × (Nat → Int32) × (Nat → Int32) × (Nat → Int32) × Int32 × Int32 × Int32 × (Nat → Int32) × Int32) ⊕ (Int32)), xsWh (fun s6 => fX10_view_L16 g0Lx g0Ly g0Rx g0Ry g0Sz a0 o1 s6.1 s6.2.1 s6.2.2) sg = some rg → (xsSm rg (fun v6 => fX10_view_J86 a0 o1 v6) = some out → ∀ (H : Heap) (locs : List Loc) (ls : Array Slot), va_P (xsD X) vwCl (wK X kIsKept o1.1 hiLatest hiSize scBytes scTold scLength scFault scAt scNumber o1.2.1 o1.2.2.1 o1.2.2.2.1 o1.2.2.2.2.1 o1.2.2.2.2.2.1 o1.2.2.2.2.2.2.1 o1.2.2.2.2.2.2.2.1 o1.2.2.2.2.2.2.2.2.1 o1.2.2.2.2.2.2.2.2.2.1 o1.2.2.2.2.2.2.2.2.2.2.1 o1.2.2.2.2.2.2.2.2.2.2.2.1 o1.2.2.2.2.2.2.2.2.2.2.2.2.1 o1.2.2.2.2.2.2.2.2.2.2.2.2.2.1 o1.2.2.2.2.2.2.2.2.2.2.2.2.2.2.1 o1.2.2.2.2.2.2.2.2.2.2.2.2.2.2.2.1 o1.2.2.2.2.2.2.2.2.2.2.2.2.2.2.2.2.1 o1.2.2.2.2.2.2.2.2.2.2.2.2.2.2.2.2.2.1 o1.2.2.2.2.2.2.2.2.2.2.2.2.2.2.2.2.2.2.1 o1.2.2.2.2.2.2.2.2.2.2.2.2.2.2.2.2.2.2.2.1 o1.2.2.2.2.2.2.2.2.2.2.2.2.2.2.2.2.2.2.2.2.1 o1.2.2.2.2.2.2.2.2.2.2.2.2.2.2.2.2.2.2.2.2.2.1 o1.2.2.2.2.2.2.2.2.2.2.2.2.2.2.2.2.2.2.2.2.2.2.1 o1.2.2.2.2.2.2.2.2.2.2.2.2.2.2.2.2.2.2.2.2.2.2.2.1 o1.2.2.2.2.2.2.2.2.2.2.2.2.2.2.2.2.2.2.2.2.2.2.2.2.1 o1.2.2.2.2.2.2.2.2.2.2.2.2.2.2.2.2.2.2.2.2.2.2.2.2.2.1 o1.2.2.2.2.2.2.2.2.2.2.2.2.2.2.2.2.2.2.2.2.2.2.2.2.2.2.1 o1.2.2.2.2.2.2.2.2.2.2.2.2.2.2.2.2.2.2.2.2.2.2.2.2.2.2.2 grFar grQueue grQueued huX huY huSize huBestX huBestY S Rw) H → va_D (xsF X) (wK X kIsKept o1.1 hiLatest hiSize scBytes scTold scLength scFault scAt scNumber o1.2.1 o1.2.2.1 o1.2.2.2.1 o1.2.2.2.2.1 o1.2.2.2.2.2.1 o1.2.2.2.2.2.2.1 o1.2.2.2.2.2.2.2.1 o1.2.2.2.2.2.2.2.2.1 o1.2.2.2.2.2.2.2.2.2.1 o1.2.2.2.2.2.2.2.2.2.2.1 o1.2.2.2.2.2.2.2.2.2.2.2.1 o1.2.2.2.2.2.2.2.2.2.2.2.2.1 o1.2.2.2.2.2.2.2.2.2.2.2.2.2.1 o1.2.2.2.2.2.2.2.2.2.2.2.2.2.2.1 o1.2.2.2.2.2.2.2.2.2.2.2.2.2.2.2.1 o1.2.2.2.2.2.2.2.2.2.2.2.2.2.2.2.2.1 o1.2.2.2.2.2.2.2.2.2.2.2.2.2.2.2.2.2.1 o1.2.2.2.2.2.2.2.2.2.2.2.2.2.2.2.2.2.2.1 o1.2.2.2.2.2.2.2.2.2.2.2.2.2.2.2.2.2.2.2.1 o1.2.2.2.2.2.2.2.2.2.2.2.2.2.2.2.2.2.2.2.2.1 o1.2.2.2.2.2.2.2.2.2.2.2.2.2.2.2.2.2.2.2.2.2.1 o1.2.2.2.2.2.2.2.2.2.2.2.2.2.2.2.2.2.2.2.2.2.2.1 o1.2.2.2.2.2.2.2.2.2.2.2.2.2.2.2.2.2.2.2.2.2.2.2.1 o1.2.2.2.2.2.2.2.2.2.2.2.2.2.2.2.2.2.2.2.2.2.2.2.2.1 o1.2.2.2.2.2.2.2.2.2.2.2.2.2.2.2.2.2.2.2.2.2.2.2.2.2.1 o1.2.2.2.2.2.2.2.2.2.2.2.2.2.2.2.2.2.2.2.2.2.2.2.2.2.2.1 o1.2.2.2.2.2.2.2.2.2.2.2.2.2.2.2.2.2.2.2.2.2.2.2.2.2.2.2 grFar grQueue grQueued huX huY huSize huBestX huBestY S Rw) → va_S (xsF X) s.heap H locs → lv_has ls 7 [(0, .ref (xsA X 0)), (1, .int a0), (2, .ref (xsA X 11)), (3, .int sg.1), (4, .int sg.2.1), (5, .int sg.2.2)] → W p l e { frames := 6, cells := 0, slots := 0, locals := 153 } s m ([.ref (xsA X 0), .int a0] : List Value).toArray below meth c H locs 0 0 (MQ below Qq ([.ref (xsA X 0), .int a0] : List Value).toArray s 0 0 (xsF X)) (F0 m 16 ls [])) := by
    refine xsWh_ind ?_
    intro sg r6 u6 hf ih6 hx6 hk6 H locs ls hP hD hS hl
    obtain ⟨y3, y4, y5⟩ := sg
    replace hf : fX10_view_L16 g0Lx g0Ly g0Rx g0Ry g0Sz a0 o1 y3 y4 y5 = some u6 := hf
    replace hl : lv_has ls 7 [(0, .ref (xsA X 0)), (1, .int a0), (2, .ref (xsA X 11)), (3, .int y3), (4, .int y4), (5, .int y5)] := hl
    replace hP : va_P (xsD X) vwCl (wK X kIsKept o1.1 hiLatest hiSize scBytes scTold scLength scFault scAt scNumber o1.2.1 o1.2.2.1 o1.2.2.2.1 o1.2.2.2.2.1 o1.2.2.2.2.2.1 o1.2.2.2.2.2.2.1 o1.2.2.2.2.2.2.2.1 o1.2.2.2.2.2.2.2.2.1 o1.2.2.2.2.2.2.2.2.2.1 o1.2.2.2.2.2.2.2.2.2.2.1 o1.2.2.2.2.2.2.2.2.2.2.2.1 o1.2.2.2.2.2.2.2.2.2.2.2.2.1 o1.2.2.2.2.2.2.2.2.2.2.2.2.2.1 o1.2.2.2.2.2.2.2.2.2.2.2.2.2.2.1 o1.2.2.2.2.2.2.2.2.2.2.2.2.2.2.2.1 o1.2.2.2.2.2.2.2.2.2.2.2.2.2.2.2.2.1 o1.2.2.2.2.2.2.2.2.2.2.2.2.2.2.2.2.2.1 o1.2.2.2.2.2.2.2.2.2.2.2.2.2.2.2.2.2.2.1 o1.2.2.2.2.2.2.2.2.2.2.2.2.2.2.2.2.2.2.2.1 o1.2.2.2.2.2.2.2.2.2.2.2.2.2.2.2.2.2.2.2.2.1 o1.2.2.2.2.2.2.2.2.2.2.2.2.2.2.2.2.2.2.2.2.2.1 o1.2.2.2.2.2.2.2.2.2.2.2.2.2.2.2.2.2.2.2.2.2.2.1 o1.2.2.2.2.2.2.2.2.2.2.2.2.2.2.2.2.2.2.2.2.2.2.2.1 o1.2.2.2.2.2.2.2.2.2.2.2.2.2.2.2.2.2.2.2.2.2.2.2.2.1 o1.2.2.2.2.2.2.2.2.2.2.2.2.2.2.2.2.2.2.2.2.2.2.2.2.2.1 o1.2.2.2.2.2.2.2.2.2.2.2.2.2.2.2.2.2.2.2.2.2.2.2.2.2.2.1 o1.2.2.2.2.2.2.2.2.2.2.2.2.2.2.2.2.2.2.2.2.2.2.2.2.2.2.2 grFar grQueue grQueued huX huY huSize huBestX huBestY S Rw) H := hP
    replace hD : va_D (xsF X) (wK X kIsKept o1.1 hiLatest hiSize scBytes scTold scLength scFault scAt scNumber o1.2.1 o1.2.2.1 o1.2.2.2.1 o1.2.2.2.2.1 o1.2.2.2.2.2.1 o1.2.2.2.2.2.2.1 o1.2.2.2.2.2.2.2.1 o1.2.2.2.2.2.2.2.2.1 o1.2.2.2.2.2.2.2.2.2.1 o1.2.2.2.2.2.2.2.2.2.2.1 o1.2.2.2.2.2.2.2.2.2.2.2.1 o1.2.2.2.2.2.2.2.2.2.2.2.2.1 o1.2.2.2.2.2.2.2.2.2.2.2.2.2.1 o1.2.2.2.2.2.2.2.2.2.2.2.2.2.2.1 o1.2.2.2.2.2.2.2.2.2.2.2.2.2.2.2.1 o1.2.2.2.2.2.2.2.2.2.2.2.2.2.2.2.2.1 o1.2.2.2.2.2.2.2.2.2.2.2.2.2.2.2.2.2.1 o1.2.2.2.2.2.2.2.2.2.2.2.2.2.2.2.2.2.2.1 o1.2.2.2.2.2.2.2.2.2.2.2.2.2.2.2.2.2.2.2.1 o1.2.2.2.2.2.2.2.2.2.2.2.2.2.2.2.2.2.2.2.2.1 o1.2.2.2.2.2.2.2.2.2.2.2.2.2.2.2.2.2.2.2.2.2.1 o1.2.2.2.2.2.2.2.2.2.2.2.2.2.2.2.2.2.2.2.2.2.2.1 o1.2.2.2.2.2.2.2.2.2.2.2.2.2.2.2.2.2.2.2.2.2.2.2.1 o1.2.2.2.2.2.2.2.2.2.2.2.2.2.2.2.2.2.2.2.2.2.2.2.2.1 o1.2.2.2.2.2.2.2.2.2.2.2.2.2.2.2.2.2.2.2.2.2.2.2.2.2.1 o1.2.2.2.2.2.2.2.2.2.2.2.2.2.2.2.2.2.2.2.2.2.2.2.2.2.2.1 o1.2.2.2.2.2.2.2.2.2.2.2.2.2.2.2.2.2.2.2.2.2.2.2.2.2.2.2 grFar grQueue grQueued huX huY huSize huBestX huBestY S Rw) := hD
    unfold fX10_view_L16 at hf
    refine lv_iload hx hb dX10_view_16 (lv_at hl 5 rfl) ?_
    refine lv_iconst (v := (1 : Int32)) hx hb dX10_view_18 (by decide) ?_
    refine lv_iadd hx hb dX10_view_19 ?_
    refine lv_aload_n hx hb dX10_view_20 rfl (lv_at hl 2 rfl) ?_
    refine xg_X10_158 C hP dX10_view_21 ?_
    refine lv_icmp_ge (tgt := 86) hx hb dX10_view_24 (by decide) (fun c22 => ?_) (fun c22 => ?_)
    · replace hf := xsBr_t c22 hf
      have ez := hx6 _ (Option.some.inj hf).symm
      subst ez
      exact K6 y3 hk6 H locs ls hP hD hS (lv_sub hl [1, 3] rfl)
    · replace hf := xsBr_f c22 hf
      refine lv_aload_n hx hb dX10_view_27 rfl (lv_at hl 2 rfl) ?_
      refine lv_iload hx hb dX10_view_28 (lv_at hl 5 rfl) ?_
      replace hf := xsBd_use hf
      obtain ⟨o9, h10, hf⟩ := hf
      refine xs_calli hS (xs_runV (As := [.int y5]) C (mX1_isLastOfItsX l  h10) w_626 w_627 w_628 w_112 w_629 hd_X1_isLastOfItsX ⟨rfl, rfl, Nat.le_of_ble_eq_true rfl, Nat.le_of_ble_eq_true rfl, Nat.zero_le _, Nat.zero_le _⟩ hP hD hS lk_X1 rfl hl.1 rfl (Nat.le_of_ble_eq_true rfl) dX10_view_30) (fun H locs hP hD hS => ?_)
      refine lv_if_ne (tgt := 39) hx hb dX10_view_33 (by decide) (fun c21 => ?_) (fun c21 => ?_)
      · replace hf := xsBr_f c21 hf
        refine lv_aload_n hx hb dX10_view_39 rfl (lv_at hl 0 rfl) ?_
        refine xg_X10_10 C hP dX10_view_40 ?_
        refine lv_aload_n hx hb dX10_view_43 rfl (lv_at hl 2 rfl) ?_
        refine lv_iload hx hb dX10_view_44 (lv_at hl 5 rfl) ?_
        replace hf := xsBd_use hf
        obtain ⟨o11, h12, hf⟩ := hf
        refine xs_calli hS (xs_runS (As := [.ref (xsA X 27), .ref (xsA X 11), .int y5]) C (mX8_last l (js := 0) (by decide) hs_0 h12) w_630 w_631 w_130 w_632 hd_X8_last ⟨rfl, rfl, Nat.le_of_ble_eq_true rfl, Nat.le_of_ble_eq_true rfl, Nat.zero_le _, Nat.zero_le _⟩ hP hD hS hl.1 rfl (Nat.le_of_ble_eq_true rfl) dX10_view_46) (fun H locs hP hD hS => ?_)
        refine lv_istore (lv' := [(6, .int o11), (0, .ref (xsA X 0)), (1, .int a0), (2, .ref (xsA X 11)), (3, .int y3), (4, .int y4), (5, .int y5)]) hx hb dX10_view_49 hl (by decide) rfl (fun ls hl => ?_)
        refine lv_iload_n hx hb dX10_view_51 rfl (lv_at hl 4 rfl) ?_
        have K16 : ∀ (hf : fX10_view_J65 a0 o1 y3 y5 o11 = some u6) (H : Heap) (locs : List Loc) (ls : Array Slot), va_P (xsD X) vwCl (wK X kIsKept o1.1 hiLatest hiSize scBytes scTold scLength scFault scAt scNumber o1.2.1 o1.2.2.1 o1.2.2.2.1 o1.2.2.2.2.1 o1.2.2.2.2.2.1 o1.2.2.2.2.2.2.1 o1.2.2.2.2.2.2.2.1 o1.2.2.2.2.2.2.2.2.1 o1.2.2.2.2.2.2.2.2.2.1 o1.2.2.2.2.2.2.2.2.2.2.1 o1.2.2.2.2.2.2.2.2.2.2.2.1 o1.2.2.2.2.2.2.2.2.2.2.2.2.1 o1.2.2.2.2.2.2.2.2.2.2.2.2.2.1 o1.2.2.2.2.2.2.2.2.2.2.2.2.2.2.1 o1.2.2.2.2.2.2.2.2.2.2.2.2.2.2.2.1 o1.2.2.2.2.2.2.2.2.2.2.2.2.2.2.2.2.1 o1.2.2.2.2.2.2.2.2.2.2.2.2.2.2.2.2.2.1 o1.2.2.2.2.2.2.2.2.2.2.2.2.2.2.2.2.2.2.1 o1.2.2.2.2.2.2.2.2.2.2.2.2.2.2.2.2.2.2.2.1 o1.2.2.2.2.2.2.2.2.2.2.2.2.2.2.2.2.2.2.2.2.1 o1.2.2.2.2.2.2.2.2.2.2.2.2.2.2.2.2.2.2.2.2.2.1 o1.2.2.2.2.2.2.2.2.2.2.2.2.2.2.2.2.2.2.2.2.2.2.1 o1.2.2.2.2.2.2.2.2.2.2.2.2.2.2.2.2.2.2.2.2.2.2.2.1 o1.2.2.2.2.2.2.2.2.2.2.2.2.2.2.2.2.2.2.2.2.2.2.2.2.1 o1.2.2.2.2.2.2.2.2.2.2.2.2.2.2.2.2.2.2.2.2.2.2.2.2.2.1 o1.2.2.2.2.2.2.2.2.2.2.2.2.2.2.2.2.2.2.2.2.2.2.2.2.2.2.1 o1.2.2.2.2.2.2.2.2.2.2.2.2.2.2.2.2.2.2.2.2.2.2.2.2.2.2.2 grFar grQueue grQueued huX huY huSize huBestX huBestY S Rw) H → va_D (xsF X) (wK X kIsKept o1.1 hiLatest hiSize scBytes scTold scLength scFault scAt scNumber o1.2.1 o1.2.2.1 o1.2.2.2.1 o1.2.2.2.2.1 o1.2.2.2.2.2.1 o1.2.2.2.2.2.2.1 o1.2.2.2.2.2.2.2.1 o1.2.2.2.2.2.2.2.2.1 o1.2.2.2.2.2.2.2.2.2.1 o1.2.2.2.2.2.2.2.2.2.2.1 o1.2.2.2.2.2.2.2.2.2.2.2.1 o1.2.2.2.2.2.2.2.2.2.2.2.2.1 o1.2.2.2.2.2.2.2.2.2.2.2.2.2.1 o1.2.2.2.2.2.2.2.2.2.2.2.2.2.2.1 o1.2.2.2.2.2.2.2.2.2.2.2.2.2.2.2.1 o1.2.2.2.2.2.2.2.2.2.2.2.2.2.2.2.2.1 o1.2.2.2.2.2.2.2.2.2.2.2.2.2.2.2.2.2.1 o1.2.2.2.2.2.2.2.2.2.2.2.2.2.2.2.2.2.2.1 o1.2.2.2.2.2.2.2.2.2.2.2.2.2.2.2.2.2.2.2.1 o1.2.2.2.2.2.2.2.2.2.2.2.2.2.2.2.2.2.2.2.2.1 o1.2.2.2.2.2.2.2.2.2.2.2.2.2.2.2.2.2.2.2.2.2.1 o1.2.2.2.2.2.2.2.2.2.2.2.2.2.2.2.2.2.2.2.2.2.2.1 o1.2.2.2.2.2.2.2.2.2.2.2.2.2.2.2.2.2.2.2.2.2.2.2.1 o1.2.2.2.2.2.2.2.2.2.2.2.2.2.2.2.2.2.2.2.2.2.2.2.2.1 o1.2.2.2.2.2.2.2.2.2.2.2.2.2.2.2.2.2.2.2.2.2.2.2.2.2.1 o1.2.2.2.2.2.2.2.2.2.2.2.2.2.2.2.2.2.2.2.2.2.2.2.2.2.2.1 o1.2.2.2.2.2.2.2.2.2.2.2.2.2.2.2.2.2.2.2.2.2.2.2.2.2.2.2 grFar grQueue grQueued huX huY huSize huBestX huBestY S Rw) → va_S (xsF X) s.heap H locs → lv_has ls 7 [(0, .ref (xsA X 0)), (1, .int a0), (2, .ref (xsA X 11)), (3, .int y3), (5, .int y5), (6, .int o11)] → W p l e { frames := 6, cells := 0, slots := 0, locals := 153 } s m ([.ref (xsA X 0), .int a0] : List Value).toArray below meth c H locs 0 0 (MQ below Qq ([.ref (xsA X 0), .int a0] : List Value).toArray s 0 0 (xsF X)) (F0 m 65 ls []) := by
          intro hf H locs ls hP hD hS hl
          unfold fX10_view_J65 at hf
          refine lv_iload_n hx hb dX10_view_65 rfl (lv_at hl 3 rfl) ?_
          refine lv_iload_n hx hb dX10_view_66 rfl (lv_at hl 1 rfl) ?_
          refine lv_icmp_ne (tgt := 73) hx hb dX10_view_67 (by decide) (fun c15 => ?_) (fun c15 => ?_)
          · replace hf := xsBr_f c15 hf
            refine lv_iload hx hb dX10_view_73 (lv_at hl 5 rfl) ?_
            refine lv_istore (lv' := [(4, .int o11), (0, .ref (xsA X 0)), (1, .int a0), (2, .ref (xsA X 11)), (3, .int y3), (5, .int y5), (6, .int o11)]) hx hb dX10_view_75 hl (by decide) rfl (fun ls hl => ?_)
            obtain ⟨x13, ex13⟩ : ∃ y : Int32, y = y3 + (1 : Int32) := ⟨_, rfl⟩
            replace hf := xsLt_use ex13 hf
            refine lv_iinc (v := x13) (lv' := [(3, .int x13), (4, .int o11), (0, .ref (xsA X 0)), (1, .int a0), (2, .ref (xsA X 11)), (5, .int y5), (6, .int o11)]) hx hb dX10_view_77 hl (k := 4) rfl (by rw [ex13]; rfl) (by decide) rfl (fun ls hl => ?_)
            obtain ⟨x14, ex14⟩ : ∃ y : Int32, y = y5 + (1 : Int32) := ⟨_, rfl⟩
            replace hf := xsLt_use ex14 hf
            refine lv_iinc (v := x14) (lv' := [(5, .int x14), (3, .int x13), (4, .int o11), (0, .ref (xsA X 0)), (1, .int a0), (2, .ref (xsA X 11)), (6, .int o11)]) hx hb dX10_view_80 hl (k := 5) rfl (by rw [ex14]; rfl) (by decide) rfl (fun ls hl => ?_)
            refine lv_goto (tgt := 16) hx hb dX10_view_83 (by decide) ?_
            exact ih6 _ (Option.some.inj hf).symm hk6 H locs ls hP hD hS (lv_sub hl [3, 4, 5, 1, 2, 0] rfl)
          · replace hf := xsBr_t c15 hf
            refine lv_iload hx hb dX10_view_70 (lv_at hl 5 rfl) ?_
            have ez := hx6 _ (Option.some.inj hf).symm
            subst ez
            have hf := hk6
            have ho := Option.some.inj hf
            subst ho
            rw [hQq]
            exact xs_iret C hr hlk hP hD hS dX10_view_72
        refine lv_if_le (tgt := 65) hx hb dX10_view_52 (by decide) (fun c19 => ?_) (fun c19 => ?_)
        · replace hf := xsBr_t c19 hf
          exact K16 hf H locs ls hP hD hS (lv_sub hl [1, 2, 3, 4, 6, 0] rfl)
        · replace hf := xsBr_f c19 hf
          refine lv_iload hx hb dX10_view_55 (lv_at hl 0 rfl) ?_
          refine lv_iload hx hb dX10_view_57 (lv_at hl 5 rfl) ?_
          refine lv_icmp_ne (tgt := 65) hx hb dX10_view_59 (by decide) (fun c18 => ?_) (fun c18 => ?_)
          · replace hf := xsBr_f c18 hf
            exact K16 hf H locs ls hP hD hS (lv_sub hl [1, 2, 3, 4, 6, 0] rfl)
          · replace hf := xsBr_t c18 hf
            refine lv_goto (tgt := 80) hx hb dX10_view_62 (by decide) ?_
            obtain ⟨x17, ex17⟩ : ∃ y : Int32, y = y5 + (1 : Int32) := ⟨_, rfl⟩
            replace hf := xsLt_use ex17 hf
            refine lv_iinc (v := x17) (lv' := [(5, .int x17), (6, .int o11), (0, .ref (xsA X 0)), (1, .int a0), (2, .ref (xsA X 11)), (3, .int y3), (4, .int y4)]) hx hb dX10_view_80 hl (k := 6) rfl (by rw [ex17]; rfl) (by decide) rfl (fun ls hl => ?_)
            refine lv_goto (tgt := 16) hx hb dX10_view_83 (by decide) ?_
            exact ih6 _ (Option.some.inj hf).symm hk6 H locs ls hP hD hS (lv_sub hl [2, 3, 4, 5, 6, 0] rfl)
      · replace hf := xsBr_t c21 hf
        refine lv_goto (tgt := 80) hx hb dX10_view_36 (by decide) ?_
        obtain ⟨x20, ex20⟩ : ∃ y : Int32, y = y5 + (1 : Int32) := ⟨_, rfl⟩
        replace hf := xsLt_use ex20 hf
        refine lv_iinc (v := x20) (lv' := [(5, .int x20), (0, .ref (xsA X 0)), (1, .int a0), (2, .ref (xsA X 11)), (3, .int y3), (4, .int y4)]) hx hb dX10_view_80 hl (k := 5) rfl (by rw [ex20]; rfl) (by decide) rfl (fun ls hl => ?_)
        refine lv_goto (tgt := 16) hx hb dX10_view_83 (by decide) ?_
        exact ih6 _ (Option.some.inj hf).symm hk6 H locs ls hP hD hS (lv_sub hl [1, 2, 3, 4, 5, 0] rfl)
  exact L6 ((0 : Int32), (-1 : Int32), (0 : Int32)) r6 hk60 hf H locs ls hP hD hS (lv_sub hl [4, 5, 3, 2, 1, 0] rfl)
set_option maxRecDepth 100000 in
set_option maxHeartbeats 8000000 in
theorem mX10_image (l : Launch) {X : xsX} {kIsKept kIsStale hiLatest hiSize scLength scFault scAt scNumber piSegmentsNow enKind enFromX enFromY enToX enToY tiMeetingPairs tiAlongPairs tiSize evSize evCrossings evSegmentsNow grEdges grQueued huSize huBestX huBestY : Int32} {scBytes scTold tiTouching tiLyingAlong evBundle evCrossingOf evEventOf evLeftEvent evRightEvent grDegree grFar grQueue huX huY : Nat → Int32} {enX enY enLower : Int64} {evX evY evLower : Nat → Int64} {S : Nat → xsV} {Rw : va_W} {g0Lx g0Ly g0Rx g0Ry g0Ti : Nat → Int32} {g0Sz : Int32} (hs_0 : S 0 = (g0Lx, g0Ly, g0Rx, g0Ry, g0Ti, g0Sz)) {g1Lx g1Ly g1Rx g1Ry g1Ti : Nat → Int32} {g1Sz : Int32} (hs_1 : S 1 = (g1Lx, g1Ly, g1Rx, g1Ry, g1Ti, g1Sz)) {out : Int32 × (Nat → Int32) × (Nat → Int32) × (Nat → Int32) × (Nat → Int32) × (Nat → Int32) × Int32} (hf : fX10_image kIsKept g0Lx g0Ly g0Rx g0Ry g0Ti g0Sz g1Lx g1Ly g1Rx g1Ry g1Ti g1Sz = some out) : Met l yX10_image (xsWs yX10_image cX10_image 1 none) { frames := 2, cells := 0, slots := 0, locals := 45 } (xsP X (wK X kIsKept kIsStale hiLatest hiSize scBytes scTold scLength scFault scAt scNumber piSegmentsNow enKind enX enY enLower enFromX enFromY enToX enToY tiTouching tiLyingAlong tiMeetingPairs tiAlongPairs tiSize evX evY evLower evBundle evCrossingOf evEventOf evLeftEvent evRightEvent evSize evCrossings evSegmentsNow grDegree grEdges grFar grQueue grQueued huX huY huSize huBestX huBestY S Rw) [.ref (xsA X 0)]) (xsQv X (wK X out.1 kIsStale hiLatest hiSize scBytes scTold scLength scFault scAt scNumber piSegmentsNow enKind enX enY enLower enFromX enFromY enToX enToY tiTouching tiLyingAlong tiMeetingPairs tiAlongPairs tiSize evX evY evLower evBundle evCrossingOf evEventOf evLeftEvent evRightEvent evSize evCrossings evSegmentsNow grDegree grEdges grFar grQueue grQueued huX huY huSize huBestX huBestY (xsSu S 1 (out.2.1, out.2.2.1, out.2.2.2.1, out.2.2.2.2.1, out.2.2.2.2.2.1, out.2.2.2.2.2.2)) Rw)) 0 0 (xsF X) := by
  refine xs_meth RX10 (by decide) rfl (Nat.le_of_ble_eq_true rfl) ?_
  intro p e s m below meth c ls H locs C hP hD hS hr hlk hl
  have hx := C.1
  have hb := C.2.1
  have hl : lv_has ls 1 [(0, .ref (xsA X 0))] := hl
  obtain ⟨Qq, hQq⟩ : ∃ Qq, Qq = xsQv X (wK X out.1 kIsStale hiLatest hiSize scBytes scTold scLength scFault scAt scNumber piSegmentsNow enKind enX enY enLower enFromX enFromY enToX enToY tiTouching tiLyingAlong tiMeetingPairs tiAlongPairs tiSize evX evY evLower evBundle evCrossingOf evEventOf evLeftEvent evRightEvent evSize evCrossings evSegmentsNow grDegree grEdges grFar grQueue grQueued huX huY huSize huBestX huBestY (xsSu S 1 (out.2.1, out.2.2.1, out.2.2.2.1, out.2.2.2.2.1, out.2.2.2.2.2.1, out.2.2.2.2.2.2)) Rw) := ⟨_, rfl⟩
  rw [← hQq]
  unfold fX10_image at hf
  refine lv_aload_n hx hb dX10_image_0 rfl (lv_at hl 0 rfl) ?_
  refine xg_X10_16 C hP dX10_image_1 ?_
  refine lv_aload_n hx hb dX10_image_4 rfl (lv_at hl 0 rfl) ?_
  refine xg_X10_10 C hP dX10_image_5 ?_
  replace hf := xsBd_use hf
  obtain ⟨o1, h2, hf⟩ := hf
  refine xs_callv hS (xs_runV (As := [.ref (xsA X 27)]) C (mX7_copyFrom l (js := 1) (by decide) (jo := 0) (by decide) (by decide) hs_1 hs_0 h2) w_657 w_517 w_518 w_106 w_519 hd_X7_copyFrom ⟨rfl, rfl, Nat.le_of_ble_eq_true rfl, Nat.le_of_ble_eq_true rfl, Nat.zero_le _, Nat.zero_le _⟩ hP hD hS (xs_lkS (by decide)) rfl hl.1 rfl (Nat.le_of_ble_eq_true rfl) dX10_image_8) (fun H locs hP hD hS => ?_)
  refine lv_aload_n hx hb dX10_image_11 rfl (lv_at hl 0 rfl) ?_
  refine lv_iconst (v := (1 : Int32)) hx hb dX10_image_12 (by decide) ?_
  refine xp_X10_50 xsB_1 C hP hD hS dX10_image_13 (fun H locs hP hD hS => ?_)
  have ho := Option.some.inj hf
  subst ho
  rw [hQq]
  exact xs_vret C hr hlk hP hD hS dX10_image_16
set_option maxRecDepth 100000 in
set_option maxHeartbeats 8000000 in
theorem mX10_become (l : Launch) {X : xsX} {kIsKept kIsStale hiLatest hiSize scLength scFault scAt scNumber piSegmentsNow enKind enFromX enFromY enToX enToY tiMeetingPairs tiAlongPairs tiSize evSize evCrossings evSegmentsNow grEdges grQueued huSize huBestX huBestY : Int32} {scBytes scTold tiTouching tiLyingAlong evBundle evCrossingOf evEventOf evLeftEvent evRightEvent grDegree grFar grQueue huX huY : Nat → Int32} {enX enY enLower : Int64} {evX evY evLower : Nat → Int64} {S : Nat → xsV} {Rw : va_W} {jo : Nat} (hjo : jo < 12) (hso : jo ≠ 0) {oLx oLy oRx oRy oTi : Nat → Int32} {oSz : Int32} (hs_o : S jo = (oLx, oLy, oRx, oRy, oTi, oSz)) {g0Lx g0Ly g0Rx g0Ry g0Ti : Nat → Int32} {g0Sz : Int32} (hs_0 : S 0 = (g0Lx, g0Ly, g0Rx, g0Ry, g0Ti, g0Sz)) {out : Int32 × (Nat → Int32) × (Nat → Int32) × (Nat → Int32) × (Nat → Int32) × (Nat → Int32) × Int32} (hf : fX10_become kIsStale oLx oLy oRx oRy oTi oSz g0Lx g0Ly g0Rx g0Ry g0Ti g0Sz = some out) : Met l yX10_become (xsWs yX10_become cX10_become 2 none) { frames := 2, cells := 0, slots := 0, locals := 45 } (xsP X (wK X kIsKept kIsStale hiLatest hiSize scBytes scTold scLength scFault scAt scNumber piSegmentsNow enKind enX enY enLower enFromX enFromY enToX enToY tiTouching tiLyingAlong tiMeetingPairs tiAlongPairs tiSize evX evY evLower evBundle evCrossingOf evEventOf evLeftEvent evRightEvent evSize evCrossings evSegmentsNow grDegree grEdges grFar grQueue grQueued huX huY huSize huBestX huBestY S Rw) [.ref (xsA X 0), .ref (xsA X (27 + 6 * jo))]) (xsQv X (wK X kIsKept out.1 hiLatest hiSize scBytes scTold scLength scFault scAt scNumber piSegmentsNow enKind enX enY enLower enFromX enFromY enToX enToY tiTouching tiLyingAlong tiMeetingPairs tiAlongPairs tiSize evX evY evLower evBundle evCrossingOf evEventOf evLeftEvent evRightEvent evSize evCrossings evSegmentsNow grDegree grEdges grFar grQueue grQueued huX huY huSize huBestX huBestY (xsSu S 0 (out.2.1, out.2.2.1, out.2.2.2.1, out.2.2.2.2.1, out.2.2.2.2.2.1, out.2.2.2.2.2.2)) Rw)) 0 0 (xsF X) := by
  refine xs_meth RX10 (by decide) rfl (Nat.le_of_ble_eq_true rfl) ?_
  intro p e s m below meth c ls H locs C hP hD hS hr hlk hl
  have hx := C.1
  have hb := C.2.1
  have hl : lv_has ls 2 [(0, .ref (xsA X 0)), (1, .ref (xsA X (27 + 6 * jo)))] := hl
  obtain ⟨Qq, hQq⟩ : ∃ Qq, Qq = xsQv X (wK X kIsKept out.1 hiLatest hiSize scBytes scTold scLength scFault scAt scNumber piSegmentsNow enKind enX enY enLower enFromX enFromY enToX enToY tiTouching tiLyingAlong tiMeetingPairs tiAlongPairs tiSize evX evY evLower evBundle evCrossingOf evEventOf evLeftEvent evRightEvent evSize evCrossings evSegmentsNow grDegree grEdges grFar grQueue grQueued huX huY huSize huBestX huBestY (xsSu S 0 (out.2.1, out.2.2.1, out.2.2.2.1, out.2.2.2.2.1, out.2.2.2.2.2.1, out.2.2.2.2.2.2)) Rw) := ⟨_, rfl⟩
  rw [← hQq]
  unfold fX10_become at hf
  refine lv_aload_n hx hb dX10_become_0 rfl (lv_at hl 0 rfl) ?_
  refine xg_X10_10 C hP dX10_become_1 ?_
  refine lv_aload_n hx hb dX10_become_4 rfl (lv_at hl 1 rfl) ?_
  replace hf := xsBd_use hf
  obtain ⟨o1, h2, hf⟩ := hf
  refine xs_callv hS (xs_runV (As := [.ref (xsA X (27 + 6 * jo))]) C (mX7_copyFrom l (js := 0) (by decide) (jo := jo) hjo hso hs_0 hs_o h2) w_657 w_517 w_518 w_106 w_519 hd_X7_copyFrom ⟨rfl, rfl, Nat.le_of_ble_eq_true rfl, Nat.le_of_ble_eq_true rfl, Nat.zero_le _, Nat.zero_le _⟩ hP hD hS (xs_lkS (by decide)) rfl hl.1 rfl (Nat.le_of_ble_eq_true rfl) dX10_become_5) (fun H locs hP hD hS => ?_)
  refine lv_aload_n hx hb dX10_become_8 rfl (lv_at hl 0 rfl) ?_
  refine lv_iconst (v := (1 : Int32)) hx hb dX10_become_9 (by decide) ?_
  refine xp_X10_54 xsB_1 C hP hD hS dX10_become_10 (fun H locs hP hD hS => ?_)
  have ho := Option.some.inj hf
  subst ho
  rw [hQq]
  exact xs_vret C hr hlk hP hD hS dX10_become_13
set_option maxRecDepth 100000 in
set_option maxHeartbeats 8000000 in
theorem mX10_back (l : Launch) {X : xsX} {kIsKept kIsStale hiLatest hiSize scLength scFault scAt scNumber piSegmentsNow enKind enFromX enFromY enToX enToY tiMeetingPairs tiAlongPairs tiSize evSize evCrossings evSegmentsNow grEdges grQueued huSize huBestX huBestY : Int32} {scBytes scTold tiTouching tiLyingAlong evBundle evCrossingOf evEventOf evLeftEvent evRightEvent grDegree grFar grQueue huX huY : Nat → Int32} {enX enY enLower : Int64} {evX evY evLower : Nat → Int64} {S : Nat → xsV} {Rw : va_W} {g0Lx g0Ly g0Rx g0Ry g0Ti : Nat → Int32} {g0Sz : Int32} (hs_0 : S 0 = (g0Lx, g0Ly, g0Rx, g0Ry, g0Ti, g0Sz)) {g1Lx g1Ly g1Rx g1Ry g1Ti : Nat → Int32} {g1Sz : Int32} (hs_1 : S 1 = (g1Lx, g1Ly, g1Rx, g1Ry, g1Ti, g1Sz)) {out : Int32 × Int32 × Int32 × (Nat → Int32) × (Nat → Int32) × (Nat → Int32) × (Nat → Int32) × (Nat → Int32) × Int32} (hf : fX10_back kIsKept kIsStale hiSize g0Lx g0Ly g0Rx g0Ry g0Ti g0Sz g1Lx g1Ly g1Rx g1Ry g1Ti g1Sz = some out) : Met l yX10_back (xsWs yX10_back cX10_back 1 (some .boolean)) { frames := 3, cells := 0, slots := 0, locals := 66 } (xsP X (wK X kIsKept kIsStale hiLatest hiSize scBytes scTold scLength scFault scAt scNumber piSegmentsNow enKind enX enY enLower enFromX enFromY enToX enToY tiTouching tiLyingAlong tiMeetingPairs tiAlongPairs tiSize evX evY evLower evBundle evCrossingOf evEventOf evLeftEvent evRightEvent evSize evCrossings evSegmentsNow grDegree grEdges grFar grQueue grQueued huX huY huSize huBestX huBestY S Rw) [.ref (xsA X 0)]) (xsQi X out.1 (wK X kIsKept out.2.1 hiLatest out.2.2.1 scBytes scTold scLength scFault scAt scNumber piSegmentsNow enKind enX enY enLower enFromX enFromY enToX enToY tiTouching tiLyingAlong tiMeetingPairs tiAlongPairs tiSize evX evY evLower evBundle evCrossingOf evEventOf evLeftEvent evRightEvent evSize evCrossings evSegmentsNow grDegree grEdges grFar grQueue grQueued huX huY huSize huBestX huBestY (xsSu S 0 (out.2.2.2.1, out.2.2.2.2.1, out.2.2.2.2.2.1, out.2.2.2.2.2.2.1, out.2.2.2.2.2.2.2.1, out.2.2.2.2.2.2.2.2)) Rw)) 0 0 (xsF X) := by
  refine xs_meth RX10 (by decide) rfl (Nat.le_of_ble_eq_true rfl) ?_
  intro p e s m below meth c ls H locs C hP hD hS hr hlk hl
  have hx := C.1
  have hb := C.2.1
  have hl : lv_has ls 1 [(0, .ref (xsA X 0))] := hl
  obtain ⟨Qq, hQq⟩ : ∃ Qq, Qq = xsQi X out.1 (wK X kIsKept out.2.1 hiLatest out.2.2.1 scBytes scTold scLength scFault scAt scNumber piSegmentsNow enKind enX enY enLower enFromX enFromY enToX enToY tiTouching tiLyingAlong tiMeetingPairs tiAlongPairs tiSize evX evY evLower evBundle evCrossingOf evEventOf evLeftEvent evRightEvent evSize evCrossings evSegmentsNow grDegree grEdges grFar grQueue grQueued huX huY huSize huBestX huBestY (xsSu S 0 (out.2.2.2.1, out.2.2.2.2.1, out.2.2.2.2.2.1, out.2.2.2.2.2.2.1, out.2.2.2.2.2.2.2.1, out.2.2.2.2.2.2.2.2)) Rw) := ⟨_, rfl⟩
  rw [← hQq]
  unfold fX10_back at hf
  refine lv_aload_n hx hb dX10_back_0 rfl (lv_at hl 0 rfl) ?_
  refine xg_X10_50 C hP dX10_back_1 ?_
  refine lv_if_ne (tgt := 9) hx hb dX10_back_4 (by decide) (fun c5 => ?_) (fun c5 => ?_)
  · replace hf := xsBr_f c5 hf
    refine lv_aload_n hx hb dX10_back_9 rfl (lv_at hl 0 rfl) ?_
    refine xg_X10_25 C hP dX10_back_10 ?_
    replace hf := xsBd_use hf
    obtain ⟨o1, h2, hf⟩ := hf
    refine xs_callv hS (xs_runV (As := []) C (mX3_forget l  h2) w_662 w_663 w_664 w_107 w_665 hd_X3_forget ⟨rfl, rfl, Nat.le_of_ble_eq_true rfl, Nat.le_of_ble_eq_true rfl, Nat.zero_le _, Nat.zero_le _⟩ hP hD hS lk_X3 rfl hl.1 rfl (Nat.le_of_ble_eq_true rfl) dX10_back_13) (fun H locs hP hD hS => ?_)
    refine lv_aload_n hx hb dX10_back_16 rfl (lv_at hl 0 rfl) ?_
    refine lv_aload_n hx hb dX10_back_17 rfl (lv_at hl 0 rfl) ?_
    refine xg_X10_16 C hP dX10_back_18 ?_
    replace hf := xsBd_use hf
    obtain ⟨o3, h4, hf⟩ := hf
    refine xs_callv hS (xs_runV (As := [.ref (xsA X 33)]) C (mX10_become l (jo := 1) (by decide) (by decide) hs_1 hs_0 h4) w_666 w_668 w_8 w_105 w_669 hd_X10_become ⟨rfl, rfl, Nat.le_of_ble_eq_true rfl, Nat.le_of_ble_eq_true rfl, Nat.zero_le _, Nat.zero_le _⟩ hP hD hS lk_X10 rfl hl.1 rfl (Nat.le_of_ble_eq_true rfl) dX10_back_21) (fun H locs hP hD hS => ?_)
    refine lv_iconst (v := (1 : Int32)) hx hb dX10_back_24 (by decide) ?_
    have ho := Option.some.inj hf
    subst ho
    rw [hQq]
    exact xs_zret C hr hlk xsB_1 hP hD hS dX10_back_25
  · replace hf := xsBr_t c5 hf
    refine lv_iconst (v := (0 : Int32)) hx hb dX10_back_7 (by decide) ?_
    have ho := Option.some.inj hf
    subst ho
    rw [hQq]
    rw [← xsSu_self (hs_0)] at hP hD
    exact xs_zret C hr hlk xsB_0 hP hD hS dX10_back_8
set_option maxRecDepth 100000 in
set_option maxHeartbeats 8000000 in
theorem mX10_countFurther (l : Launch) {X : xsX} {kIsKept kIsStale hiLatest hiSize scLength scFault scAt scNumber piSegmentsNow enKind enFromX enFromY enToX enToY tiMeetingPairs tiAlongPairs tiSize evSize evCrossings evSegmentsNow grEdges grQueued huSize huBestX huBestY : Int32} {scBytes scTold tiTouching tiLyingAlong evBundle evCrossingOf evEventOf evLeftEvent evRightEvent grDegree grFar grQueue huX huY : Nat → Int32} {enX enY enLower : Int64} {evX evY evLower : Nat → Int64} {S : Nat → xsV} {Rw : va_W} {g0Lx g0Ly g0Rx g0Ry g0Ti : Nat → Int32} {g0Sz : Int32} (hs_0 : S 0 = (g0Lx, g0Ly, g0Rx, g0Ry, g0Ti, g0Sz)) {a1 : Int32} {out : Int32 × (Nat → Int32) × (Nat → Int32) × Int32 × Int32 × Int32} (hf : fX10_countFurther hiSize piSegmentsNow tiLyingAlong tiMeetingPairs tiSize evBundle evEventOf evLeftEvent evRightEvent evSize evCrossings evSegmentsNow grDegree huX huY huSize huBestX huBestY g0Lx g0Ly g0Rx g0Ry g0Sz a1 = some out) : Met l yX10_countFurther (xsWs yX10_countFurther cX10_countFurther 3 (some .int)) { frames := 5, cells := 0, slots := 0, locals := 109 } (xsP X (wK X kIsKept kIsStale hiLatest hiSize scBytes scTold scLength scFault scAt scNumber piSegmentsNow enKind enX enY enLower enFromX enFromY enToX enToY tiTouching tiLyingAlong tiMeetingPairs tiAlongPairs tiSize evX evY evLower evBundle evCrossingOf evEventOf evLeftEvent evRightEvent evSize evCrossings evSegmentsNow grDegree grEdges grFar grQueue grQueued huX huY huSize huBestX huBestY S Rw) [.ref (xsA X 0), .ref (xsA X 6), .int a1]) (xsQi X out.1 (wK X kIsKept kIsStale hiLatest hiSize scBytes scTold scLength scFault scAt scNumber piSegmentsNow enKind enX enY enLower enFromX enFromY enToX enToY tiTouching tiLyingAlong tiMeetingPairs tiAlongPairs tiSize evX evY evLower evBundle evCrossingOf evEventOf evLeftEvent evRightEvent evSize evCrossings evSegmentsNow grDegree grEdges grFar grQueue grQueued out.2.1 out.2.2.1 out.2.2.2.1 out.2.2.2.2.1 out.2.2.2.2.2 S Rw)) 0 0 (xsF X) := by
  refine xs_meth RX10 (by decide) rfl (Nat.le_of_ble_eq_true rfl) ?_
  intro p e s m below meth c ls H locs C hP hD hS hr hlk hl
  have hx := C.1
  have hb := C.2.1
  have hl : lv_has ls 3 [(0, .ref (xsA X 0)), (1, .ref (xsA X 6)), (2, .int a1)] := hl
  obtain ⟨Qq, hQq⟩ : ∃ Qq, Qq = xsQi X out.1 (wK X kIsKept kIsStale hiLatest hiSize scBytes scTold scLength scFault scAt scNumber piSegmentsNow enKind enX enY enLower enFromX enFromY enToX enToY tiTouching tiLyingAlong tiMeetingPairs tiAlongPairs tiSize evX evY evLower evBundle evCrossingOf evEventOf evLeftEvent evRightEvent evSize evCrossings evSegmentsNow grDegree grEdges grFar grQueue grQueued out.2.1 out.2.2.1 out.2.2.2.1 out.2.2.2.2.1 out.2.2.2.2.2 S Rw) := ⟨_, rfl⟩
  rw [← hQq]
  unfold fX10_countFurther at hf
  refine lv_iload_n hx hb dX10_countFurther_0 rfl (lv_at hl 2 rfl) ?_
  by_cases c15_0 : a1 = 8
  · replace hf := xsBr_t c15_0 hf
    refine lv_tableIn (tgt := 48) hx hb dX10_countFurther_1 (by rw [c15_0]; decide) (by rw [c15_0]; decide) (by rw [c15_0]; rfl) (by decide) ?_
    refine lv_aload_n hx hb dX10_countFurther_48 rfl (lv_at hl 1 rfl) ?_
    refine xg_X10_129 C hP dX10_countFurther_49 ?_
    replace hf := xsBd_use hf
    obtain ⟨o1, h2, hf⟩ := hf
    refine xs_calli hS (xs_runV (As := []) C (mX1_greatestStatus l  h2) w_703 w_704 w_705 w_112 w_706 hd_X1_greatestStatus ⟨rfl, rfl, Nat.le_of_ble_eq_true rfl, Nat.le_of_ble_eq_true rfl, Nat.zero_le _, Nat.zero_le _⟩ hP hD hS lk_X1 rfl hl.1 rfl (Nat.le_of_ble_eq_true rfl) dX10_countFurther_52) (fun H locs hP hD hS => ?_)
    have ho := Option.some.inj hf
    subst ho
    rw [hQq]
    exact xs_iret C hr hlk hP hD hS dX10_countFurther_55
  replace hf := xsBr_f c15_0 hf
  by_cases c15_1 : a1 = 9
  · replace hf := xsBr_t c15_1 hf
    refine lv_tableIn (tgt := 56) hx hb dX10_countFurther_1 (by rw [c15_1]; decide) (by rw [c15_1]; decide) (by rw [c15_1]; rfl) (by decide) ?_
    refine lv_aload_n hx hb dX10_countFurther_56 rfl (lv_at hl 1 rfl) ?_
    refine xg_X10_129 C hP dX10_countFurther_57 ?_
    refine lv_aload_n hx hb dX10_countFurther_60 rfl (lv_at hl 1 rfl) ?_
    refine xg_X10_129 C hP dX10_countFurther_61 ?_
    replace hf := xsBd_use hf
    obtain ⟨o3, h4, hf⟩ := hf
    refine xs_calli hS (xs_runV (As := []) C (mX1_greatestStatus l  h4) w_703 w_704 w_705 w_112 w_706 hd_X1_greatestStatus ⟨rfl, rfl, Nat.le_of_ble_eq_true rfl, Nat.le_of_ble_eq_true rfl, Nat.zero_le _, Nat.zero_le _⟩ hP hD hS lk_X1 rfl hl.1 rfl (Nat.le_of_ble_eq_true rfl) dX10_countFurther_64) (fun H locs hP hD hS => ?_)
    replace hf := xsBd_use hf
    obtain ⟨o5, h6, hf⟩ := hf
    refine xs_calli hS (xs_runV (As := [.int o3]) C (mX1_firstOfStatus l  h6) w_708 w_709 w_710 w_112 w_711 hd_X1_firstOfStatus ⟨rfl, rfl, Nat.le_of_ble_eq_true rfl, Nat.le_of_ble_eq_true rfl, Nat.zero_le _, Nat.zero_le _⟩ hP hD hS lk_X1 rfl hl.1 rfl (Nat.le_of_ble_eq_true rfl) dX10_countFurther_67) (fun H locs hP hD hS => ?_)
    have ho := Option.some.inj hf
    subst ho
    rw [hQq]
    exact xs_iret C hr hlk hP hD hS dX10_countFurther_70
  replace hf := xsBr_f c15_1 hf
  by_cases c15_2 : a1 = 10
  · replace hf := xsBr_t c15_2 hf
    refine lv_tableIn (tgt := 71) hx hb dX10_countFurther_1 (by rw [c15_2]; decide) (by rw [c15_2]; decide) (by rw [c15_2]; rfl) (by decide) ?_
    refine lv_aload_n hx hb dX10_countFurther_71 rfl (lv_at hl 1 rfl) ?_
    replace hf := xsBd_use hf
    obtain ⟨o7, h8, hf⟩ := hf
    refine xs_calli hS (xs_runV (As := []) C (mX5_blame l  h8) w_712 w_713 w_714 w_109 w_715 hd_X5_blame ⟨rfl, rfl, Nat.le_of_ble_eq_true rfl, Nat.le_of_ble_eq_true rfl, Nat.zero_le _, Nat.zero_le _⟩ hP hD hS lk_X5 rfl hl.1 rfl (Nat.le_of_ble_eq_true rfl) dX10_countFurther_72) (fun H locs hP hD hS => ?_)
    have ho := Option.some.inj hf
    subst ho
    rw [hQq]
    exact xs_iret C hr hlk hP hD hS dX10_countFurther_75
  replace hf := xsBr_f c15_2 hf
  by_cases c15_3 : a1 = 11
  · replace hf := xsBr_t c15_3 hf
    refine lv_tableIn (tgt := 76) hx hb dX10_countFurther_1 (by rw [c15_3]; decide) (by rw [c15_3]; decide) (by rw [c15_3]; rfl) (by decide) ?_
    refine lv_aload_n hx hb dX10_countFurther_76 rfl (lv_at hl 0 rfl) ?_
    refine xg_X10_25 C hP dX10_countFurther_77 ?_
    refine xg_X10_159 C hP dX10_countFurther_80 ?_
    have ho := Option.some.inj hf
    subst ho
    rw [hQq]
    exact xs_iret C hr hlk hP hD hS dX10_countFurther_83
  replace hf := xsBr_f c15_3 hf
  by_cases c15_4 : a1 = 12
  · replace hf := xsBr_t c15_4 hf
    refine lv_tableIn (tgt := 84) hx hb dX10_countFurther_1 (by rw [c15_4]; decide) (by rw [c15_4]; decide) (by rw [c15_4]; rfl) (by decide) ?_
    refine lv_aload_n hx hb dX10_countFurther_84 rfl (lv_at hl 1 rfl) ?_
    refine xg_X10_293 C hP dX10_countFurther_85 ?_
    refine lv_aload_n hx hb dX10_countFurther_88 rfl (lv_at hl 1 rfl) ?_
    refine xg_X10_129 C hP dX10_countFurther_89 ?_
    refine xg_X10_158 C hP dX10_countFurther_92 ?_
    replace hf := xsBd_use hf
    obtain ⟨o9, h10, hf⟩ := hf
    refine xs_calli hS (xs_runV (As := [.int evSize]) C (mX2_oddDegrees l  h10) w_722 w_723 w_724 w_113 w_725 hd_X2_oddDegrees ⟨rfl, rfl, Nat.le_of_ble_eq_true rfl, Nat.le_of_ble_eq_true rfl, Nat.zero_le _, Nat.zero_le _⟩ hP hD hS lk_X2 rfl hl.1 rfl (Nat.le_of_ble_eq_true rfl) dX10_countFurther_95) (fun H locs hP hD hS => ?_)
    have ho := Option.some.inj hf
    subst ho
    rw [hQq]
    exact xs_iret C hr hlk hP hD hS dX10_countFurther_98
  replace hf := xsBr_f c15_4 hf
  by_cases c15_5 : a1 = 13
  · replace hf := xsBr_t c15_5 hf
    refine lv_tableIn (tgt := 99) hx hb dX10_countFurther_1 (by rw [c15_5]; decide) (by rw [c15_5]; decide) (by rw [c15_5]; rfl) (by decide) ?_
    refine lv_aload_n hx hb dX10_countFurther_99 rfl (lv_at hl 1 rfl) ?_
    replace hf := xsBd_use hf
    obtain ⟨o11, h12, hf⟩ := hf
    refine xs_calli hS (xs_runV (As := []) C (mX5_spreads l  h12) w_726 w_727 w_728 w_109 w_729 hd_X5_spreads ⟨rfl, rfl, Nat.le_of_ble_eq_true rfl, Nat.le_of_ble_eq_true rfl, Nat.zero_le _, Nat.zero_le _⟩ hP hD hS lk_X5 rfl hl.1 rfl (Nat.le_of_ble_eq_true rfl) dX10_countFurther_100) (fun H locs hP hD hS => ?_)
    have ho := Option.some.inj hf
    subst ho
    rw [hQq]
    exact xs_iret C hr hlk hP hD hS dX10_countFurther_103
  replace hf := xsBr_f c15_5 hf
  by_cases c15_6 : a1 = 14
  · replace hf := xsBr_t c15_6 hf
    refine lv_tableIn (tgt := 104) hx hb dX10_countFurther_1 (by rw [c15_6]; decide) (by rw [c15_6]; decide) (by rw [c15_6]; rfl) (by decide) ?_
    refine lv_aload_n hx hb dX10_countFurther_104 rfl (lv_at hl 0 rfl) ?_
    refine xg_X10_46 C hP dX10_countFurther_105 ?_
    refine lv_aload_n hx hb dX10_countFurther_108 rfl (lv_at hl 0 rfl) ?_
    refine xg_X10_10 C hP dX10_countFurther_109 ?_
    replace hf := xsBd_use hf
    obtain ⟨o13, h14, hf⟩ := hf
    refine xs_callv hS (xs_runV (As := [.ref (xsA X 27)]) C (mX4_wrap l (js := 0) (by decide) hs_0 h14) w_750 w_751 w_752 w_114 w_753 hd_X4_wrap ⟨rfl, rfl, Nat.le_of_ble_eq_true rfl, Nat.le_of_ble_eq_true rfl, Nat.zero_le _, Nat.zero_le _⟩ hP hD hS lk_X4 rfl hl.1 rfl (Nat.le_of_ble_eq_true rfl) dX10_countFurther_112) (fun H locs hP hD hS => ?_)
    refine lv_aload_n hx hb dX10_countFurther_115 rfl (lv_at hl 0 rfl) ?_
    refine xg_X10_46 C hP dX10_countFurther_116 ?_
    refine xg_X10_334 C hP dX10_countFurther_119 ?_
    have ho := Option.some.inj hf
    subst ho
    rw [hQq]
    exact xs_iret C hr hlk hP hD hS dX10_countFurther_122
  replace hf := xsBr_f c15_6 hf
  by_cases c15_7 : a1 = 15
  · replace hf := xsBr_t c15_7 hf
    refine lv_tableIn (tgt := 123) hx hb dX10_countFurther_1 (by rw [c15_7]; decide) (by rw [c15_7]; decide) (by rw [c15_7]; rfl) (by decide) ?_
    refine lv_aload_n hx hb dX10_countFurther_123 rfl (lv_at hl 1 rfl) ?_
    refine xg_X10_188 C hP dX10_countFurther_124 ?_
    refine xg_X10_416 C hP dX10_countFurther_127 ?_
    have ho := Option.some.inj hf
    subst ho
    rw [hQq]
    exact xs_iret C hr hlk hP hD hS dX10_countFurther_130
  replace hf := xsBr_f c15_7 hf
  refine lv_tableOut (tgt := 131) hx hb dX10_countFurther_1 (xs_swo [8, 9, 10, 11, 12, 13, 14, 15] (by decide) ⟨c15_0, c15_1, c15_2, c15_3, c15_4, c15_5, c15_6, c15_7, trivial⟩) (by decide) ?_
  refine lv_iconst (v := (-1 : Int32)) hx hb dX10_countFurther_131 (by decide) ?_
  have ho := Option.some.inj hf
  subst ho
  rw [hQq]
  exact xs_iret C hr hlk hP hD hS dX10_countFurther_132
set_option maxRecDepth 100000 in
set_option maxHeartbeats 8000000 in
theorem mX10_count (l : Launch) {X : xsX} {kIsKept kIsStale hiLatest hiSize scLength scFault scAt scNumber piSegmentsNow enKind enFromX enFromY enToX enToY tiMeetingPairs tiAlongPairs tiSize evSize evCrossings evSegmentsNow grEdges grQueued huSize huBestX huBestY : Int32} {scBytes scTold tiTouching tiLyingAlong evBundle evCrossingOf evEventOf evLeftEvent evRightEvent grDegree grFar grQueue huX huY : Nat → Int32} {enX enY enLower : Int64} {evX evY evLower : Nat → Int64} {S : Nat → xsV} {Rw : va_W} {g0Lx g0Ly g0Rx g0Ry g0Ti : Nat → Int32} {g0Sz : Int32} (hs_0 : S 0 = (g0Lx, g0Ly, g0Rx, g0Ry, g0Ti, g0Sz)) {a0 : Int32} {out : Int32 × Int32 × Int32 × Int32 × Int64 × Int64 × Int64 × Int32 × Int32 × Int32 × Int32 × (Nat → Int32) × (Nat → Int32) × Int32 × Int32 × Int32 × (Nat → Int64) × (Nat → Int64) × (Nat → Int64) × (Nat → Int32) × (Nat → Int32) × (Nat → Int32) × (Nat → Int32) × (Nat → Int32) × Int32 × Int32 × Int32 × (Nat → Int32) × Int32 × (Nat → Int32) × (Nat → Int32) × Int32 × Int32 × Int32} (hf : fX10_count kIsStale hiSize piSegmentsNow enKind enX enY enLower enFromX enFromY enToX enToY tiTouching tiLyingAlong tiMeetingPairs tiAlongPairs tiSize evX evY evLower evBundle evCrossingOf evEventOf evLeftEvent evRightEvent evSize evCrossings evSegmentsNow grDegree grEdges huX huY huSize huBestX huBestY g0Lx g0Ly g0Rx g0Ry g0Sz a0 = some out) : Met l yX10_count (xsWs yX10_count cX10_count 3 (some .int)) { frames := 6, cells := 0, slots := 0, locals := 153 } (xsP X (wK X kIsKept kIsStale hiLatest hiSize scBytes scTold scLength scFault scAt scNumber piSegmentsNow enKind enX enY enLower enFromX enFromY enToX enToY tiTouching tiLyingAlong tiMeetingPairs tiAlongPairs tiSize evX evY evLower evBundle evCrossingOf evEventOf evLeftEvent evRightEvent evSize evCrossings evSegmentsNow grDegree grEdges grFar grQueue grQueued huX huY huSize huBestX huBestY S Rw) [.ref (xsA X 0), .int a0]) (xsQi X out.1 (wK X kIsKept out.2.1 hiLatest hiSize scBytes scTold scLength scFault scAt scNumber out.2.2.1 out.2.2.2.1 out.2.2.2.2.1 out.2.2.2.2.2.1 out.2.2.2.2.2.2.1 out.2.2.2.2.2.2.2.1 out.2.2.2.2.2.2.2.2.1 out.2.2.2.2.2.2.2.2.2.1 out.2.2.2.2.2.2.2.2.2.2.1 out.2.2.2.2.2.2.2.2.2.2.2.1 out.2.2.2.2.2.2.2.2.2.2.2.2.1 out.2.2.2.2.2.2.2.2.2.2.2.2.2.1 out.2.2.2.2.2.2.2.2.2.2.2.2.2.2.1 out.2.2.2.2.2.2.2.2.2.2.2.2.2.2.2.1 out.2.2.2.2.2.2.2.2.2.2.2.2.2.2.2.2.1 out.2.2.2.2.2.2.2.2.2.2.2.2.2.2.2.2.2.1 out.2.2.2.2.2.2.2.2.2.2.2.2.2.2.2.2.2.2.1 out.2.2.2.2.2.2.2.2.2.2.2.2.2.2.2.2.2.2.2.1 out.2.2.2.2.2.2.2.2.2.2.2.2.2.2.2.2.2.2.2.2.1 out.2.2.2.2.2.2.2.2.2.2.2.2.2.2.2.2.2.2.2.2.2.1 out.2.2.2.2.2.2.2.2.2.2.2.2.2.2.2.2.2.2.2.2.2.2.1 out.2.2.2.2.2.2.2.2.2.2.2.2.2.2.2.2.2.2.2.2.2.2.2.1 out.2.2.2.2.2.2.2.2.2.2.2.2.2.2.2.2.2.2.2.2.2.2.2.2.1 out.2.2.2.2.2.2.2.2.2.2.2.2.2.2.2.2.2.2.2.2.2.2.2.2.2.1 out.2.2.2.2.2.2.2.2.2.2.2.2.2.2.2.2.2.2.2.2.2.2.2.2.2.2.1 out.2.2.2.2.2.2.2.2.2.2.2.2.2.2.2.2.2.2.2.2.2.2.2.2.2.2.2.1 out.2.2.2.2.2.2.2.2.2.2.2.2.2.2.2.2.2.2.2.2.2.2.2.2.2.2.2.2.1 grFar grQueue grQueued out.2.2.2.2.2.2.2.2.2.2.2.2.2.2.2.2.2.2.2.2.2.2.2.2.2.2.2.2.2.1 out.2.2.2.2.2.2.2.2.2.2.2.2.2.2.2.2.2.2.2.2.2.2.2.2.2.2.2.2.2.2.1 out.2.2.2.2.2.2.2.2.2.2.2.2.2.2.2.2.2.2.2.2.2.2.2.2.2.2.2.2.2.2.2.1 out.2.2.2.2.2.2.2.2.2.2.2.2.2.2.2.2.2.2.2.2.2.2.2.2.2.2.2.2.2.2.2.2.1 out.2.2.2.2.2.2.2.2.2.2.2.2.2.2.2.2.2.2.2.2.2.2.2.2.2.2.2.2.2.2.2.2.2 S Rw)) 0 0 (xsF X) := by
  refine xs_meth RX10 (by decide) rfl (Nat.le_of_ble_eq_true rfl) ?_
  intro p e s m below meth c ls H locs C hP hD hS hr hlk hl
  have hx := C.1
  have hb := C.2.1
  have hl : lv_has ls 3 [(0, .ref (xsA X 0)), (1, .int a0)] := hl
  obtain ⟨Qq, hQq⟩ : ∃ Qq, Qq = xsQi X out.1 (wK X kIsKept out.2.1 hiLatest hiSize scBytes scTold scLength scFault scAt scNumber out.2.2.1 out.2.2.2.1 out.2.2.2.2.1 out.2.2.2.2.2.1 out.2.2.2.2.2.2.1 out.2.2.2.2.2.2.2.1 out.2.2.2.2.2.2.2.2.1 out.2.2.2.2.2.2.2.2.2.1 out.2.2.2.2.2.2.2.2.2.2.1 out.2.2.2.2.2.2.2.2.2.2.2.1 out.2.2.2.2.2.2.2.2.2.2.2.2.1 out.2.2.2.2.2.2.2.2.2.2.2.2.2.1 out.2.2.2.2.2.2.2.2.2.2.2.2.2.2.1 out.2.2.2.2.2.2.2.2.2.2.2.2.2.2.2.1 out.2.2.2.2.2.2.2.2.2.2.2.2.2.2.2.2.1 out.2.2.2.2.2.2.2.2.2.2.2.2.2.2.2.2.2.1 out.2.2.2.2.2.2.2.2.2.2.2.2.2.2.2.2.2.2.1 out.2.2.2.2.2.2.2.2.2.2.2.2.2.2.2.2.2.2.2.1 out.2.2.2.2.2.2.2.2.2.2.2.2.2.2.2.2.2.2.2.2.1 out.2.2.2.2.2.2.2.2.2.2.2.2.2.2.2.2.2.2.2.2.2.1 out.2.2.2.2.2.2.2.2.2.2.2.2.2.2.2.2.2.2.2.2.2.2.1 out.2.2.2.2.2.2.2.2.2.2.2.2.2.2.2.2.2.2.2.2.2.2.2.1 out.2.2.2.2.2.2.2.2.2.2.2.2.2.2.2.2.2.2.2.2.2.2.2.2.1 out.2.2.2.2.2.2.2.2.2.2.2.2.2.2.2.2.2.2.2.2.2.2.2.2.2.1 out.2.2.2.2.2.2.2.2.2.2.2.2.2.2.2.2.2.2.2.2.2.2.2.2.2.2.1 out.2.2.2.2.2.2.2.2.2.2.2.2.2.2.2.2.2.2.2.2.2.2.2.2.2.2.2.1 out.2.2.2.2.2.2.2.2.2.2.2.2.2.2.2.2.2.2.2.2.2.2.2.2.2.2.2.2.1 grFar grQueue grQueued out.2.2.2.2.2.2.2.2.2.2.2.2.2.2.2.2.2.2.2.2.2.2.2.2.2.2.2.2.2.1 out.2.2.2.2.2.2.2.2.2.2.2.2.2.2.2.2.2.2.2.2.2.2.2.2.2.2.2.2.2.2.1 out.2.2.2.2.2.2.2.2.2.2.2.2.2.2.2.2.2.2.2.2.2.2.2.2.2.2.2.2.2.2.2.1 out.2.2.2.2.2.2.2.2.2.2.2.2.2.2.2.2.2.2.2.2.2.2.2.2.2.2.2.2.2.2.2.2.1 out.2.2.2.2.2.2.2.2.2.2.2.2.2.2.2.2.2.2.2.2.2.2.2.2.2.2.2.2.2.2.2.2.2 S Rw) := ⟨_, rfl⟩
  rw [← hQq]
  unfold fX10_count at hf
  refine lv_aload_n hx hb dX10_count_0 rfl (lv_at hl 0 rfl) ?_
  replace hf := xsBd_use hf
  obtain ⟨o1, h2, hf⟩ := hf
  refine xs_callr hS (xs_runV (As := []) C (mX10_drawn l hs_0 h2) w_535 w_537 w_2 w_105 w_538 hd_X10_drawn ⟨rfl, rfl, Nat.le_of_ble_eq_true rfl, Nat.le_of_ble_eq_true rfl, Nat.zero_le _, Nat.zero_le _⟩ hP hD hS lk_X10 rfl hl.1 rfl (Nat.le_of_ble_eq_true rfl) dX10_count_1) (fun H locs hP hD hS => ?_)
  refine lv_astore_n (lv' := [(2, .ref (xsA X 6)), (0, .ref (xsA X 0)), (1, .int a0)]) hx hb dX10_count_4 rfl hl (by decide) rfl (fun ls hl => ?_)
  refine lv_iload_n hx hb dX10_count_5 rfl (lv_at hl 2 rfl) ?_
  by_cases c11_0 : a0 = 0
  · replace hf := xsBr_t c11_0 hf
    refine lv_tableIn (tgt := 52) hx hb dX10_count_6 (by rw [c11_0]; decide) (by rw [c11_0]; decide) (by rw [c11_0]; rfl) (by decide) ?_
    refine lv_aload_n hx hb dX10_count_52 rfl (lv_at hl 1 rfl) ?_
    refine xg_X10_10 C hP dX10_count_53 ?_
    refine xg_X10_119 (j := 0) (by decide) hs_0 C hP dX10_count_56 ?_
    have ho := Option.some.inj hf
    subst ho
    rw [hQq]
    exact xs_iret C hr hlk hP hD hS dX10_count_59
  replace hf := xsBr_f c11_0 hf
  by_cases c11_1 : a0 = 1
  · replace hf := xsBr_t c11_1 hf
    refine lv_tableIn (tgt := 60) hx hb dX10_count_6 (by rw [c11_1]; decide) (by rw [c11_1]; decide) (by rw [c11_1]; rfl) (by decide) ?_
    refine lv_aload_n hx hb dX10_count_60 rfl (lv_at hl 0 rfl) ?_
    refine xg_X10_129 C hP dX10_count_61 ?_
    refine xg_X10_133 C hP dX10_count_64 ?_
    have ho := Option.some.inj hf
    subst ho
    rw [hQq]
    exact xs_iret C hr hlk hP hD hS dX10_count_67
  replace hf := xsBr_f c11_1 hf
  by_cases c11_2 : a0 = 2
  · replace hf := xsBr_t c11_2 hf
    refine lv_tableIn (tgt := 68) hx hb dX10_count_6 (by rw [c11_2]; decide) (by rw [c11_2]; decide) (by rw [c11_2]; rfl) (by decide) ?_
    refine lv_aload_n hx hb dX10_count_68 rfl (lv_at hl 0 rfl) ?_
    refine xg_X10_129 C hP dX10_count_69 ?_
    refine xg_X10_158 C hP dX10_count_72 ?_
    have ho := Option.some.inj hf
    subst ho
    rw [hQq]
    exact xs_iret C hr hlk hP hD hS dX10_count_75
  replace hf := xsBr_f c11_2 hf
  by_cases c11_3 : a0 = 3
  · replace hf := xsBr_t c11_3 hf
    refine lv_tableIn (tgt := 76) hx hb dX10_count_6 (by rw [c11_3]; decide) (by rw [c11_3]; decide) (by rw [c11_3]; rfl) (by decide) ?_
    refine lv_aload_n hx hb dX10_count_76 rfl (lv_at hl 0 rfl) ?_
    refine xg_X10_188 C hP dX10_count_77 ?_
    refine xg_X10_381 C hP dX10_count_80 ?_
    have ho := Option.some.inj hf
    subst ho
    rw [hQq]
    exact xs_iret C hr hlk hP hD hS dX10_count_83
  replace hf := xsBr_f c11_3 hf
  by_cases c11_4 : a0 = 4
  · replace hf := xsBr_t c11_4 hf
    refine lv_tableIn (tgt := 84) hx hb dX10_count_6 (by rw [c11_4]; decide) (by rw [c11_4]; decide) (by rw [c11_4]; rfl) (by decide) ?_
    refine lv_aload_n hx hb dX10_count_84 rfl (lv_at hl 0 rfl) ?_
    refine xg_X10_293 C hP dX10_count_85 ?_
    refine xg_X10_384 C hP dX10_count_88 ?_
    have ho := Option.some.inj hf
    subst ho
    rw [hQq]
    exact xs_iret C hr hlk hP hD hS dX10_count_91
  replace hf := xsBr_f c11_4 hf
  by_cases c11_5 : a0 = 5
  · replace hf := xsBr_t c11_5 hf
    refine lv_tableIn (tgt := 92) hx hb dX10_count_6 (by rw [c11_5]; decide) (by rw [c11_5]; decide) (by rw [c11_5]; rfl) (by decide) ?_
    refine lv_aload_n hx hb dX10_count_92 rfl (lv_at hl 0 rfl) ?_
    refine xg_X10_188 C hP dX10_count_93 ?_
    replace hf := xsBd_use hf
    obtain ⟨o3, h4, hf⟩ := hf
    refine xs_calli hS (xs_runV (As := []) C (mX9_parts l  h4) w_674 w_675 w_676 w_111 w_677 hd_X9_parts ⟨rfl, rfl, Nat.le_of_ble_eq_true rfl, Nat.le_of_ble_eq_true rfl, Nat.zero_le _, Nat.zero_le _⟩ hP hD hS lk_X9 rfl hl.1 rfl (Nat.le_of_ble_eq_true rfl) dX10_count_96) (fun H locs hP hD hS => ?_)
    have ho := Option.some.inj hf
    subst ho
    rw [hQq]
    exact xs_iret C hr hlk hP hD hS dX10_count_99
  replace hf := xsBr_f c11_5 hf
  by_cases c11_6 : a0 = 6
  · replace hf := xsBr_t c11_6 hf
    refine lv_tableIn (tgt := 100) hx hb dX10_count_6 (by rw [c11_6]; decide) (by rw [c11_6]; decide) (by rw [c11_6]; rfl) (by decide) ?_
    refine lv_aload_n hx hb dX10_count_100 rfl (lv_at hl 0 rfl) ?_
    replace hf := xsBd_use hf
    obtain ⟨o5, h6, hf⟩ := hf
    refine xs_calli hS (xs_runV (As := []) C (mX5_faces l  h6) w_686 w_687 w_688 w_109 w_689 hd_X5_faces ⟨rfl, rfl, Nat.le_of_ble_eq_true rfl, Nat.le_of_ble_eq_true rfl, Nat.zero_le _, Nat.zero_le _⟩ hP hD hS lk_X5 rfl hl.1 rfl (Nat.le_of_ble_eq_true rfl) dX10_count_101) (fun H locs hP hD hS => ?_)
    have ho := Option.some.inj hf
    subst ho
    rw [hQq]
    exact xs_iret C hr hlk hP hD hS dX10_count_104
  replace hf := xsBr_f c11_6 hf
  by_cases c11_7 : a0 = 7
  · replace hf := xsBr_t c11_7 hf
    refine lv_tableIn (tgt := 105) hx hb dX10_count_6 (by rw [c11_7]; decide) (by rw [c11_7]; decide) (by rw [c11_7]; rfl) (by decide) ?_
    refine lv_aload_n hx hb dX10_count_105 rfl (lv_at hl 0 rfl) ?_
    refine xg_X10_129 C hP dX10_count_106 ?_
    replace hf := xsBd_use hf
    obtain ⟨o7, h8, hf⟩ := hf
    refine xs_calli hS (xs_runV (As := []) C (mX1_greatestBundle l  h8) w_691 w_692 w_693 w_112 w_694 hd_X1_greatestBundle ⟨rfl, rfl, Nat.le_of_ble_eq_true rfl, Nat.le_of_ble_eq_true rfl, Nat.zero_le _, Nat.zero_le _⟩ hP hD hS lk_X1 rfl hl.1 rfl (Nat.le_of_ble_eq_true rfl) dX10_count_109) (fun H locs hP hD hS => ?_)
    have ho := Option.some.inj hf
    subst ho
    rw [hQq]
    exact xs_iret C hr hlk hP hD hS dX10_count_112
  replace hf := xsBr_f c11_7 hf
  refine lv_tableOut (tgt := 113) hx hb dX10_count_6 (xs_swo [0, 1, 2, 3, 4, 5, 6, 7] (by decide) ⟨c11_0, c11_1, c11_2, c11_3, c11_4, c11_5, c11_6, c11_7, trivial⟩) (by decide) ?_
  refine lv_aload_n hx hb dX10_count_113 rfl (lv_at hl 1 rfl) ?_
  refine lv_aload_n hx hb dX10_count_114 rfl (lv_at hl 0 rfl) ?_
  refine lv_iload_n hx hb dX10_count_115 rfl (lv_at hl 2 rfl) ?_
  replace hf := xsBd_use hf
  obtain ⟨o9, h10, hf⟩ := hf
  refine xs_calli hS (xs_runV (As := [.ref (xsA X 6), .int a0]) C (mX10_countFurther l hs_0 h10) w_699 w_701 w_10 w_105 w_702 hd_X10_countFurther ⟨rfl, rfl, Nat.le_of_ble_eq_true rfl, Nat.le_of_ble_eq_true rfl, Nat.zero_le _, Nat.zero_le _⟩ hP hD hS lk_X10 rfl hl.1 rfl (Nat.le_of_ble_eq_true rfl) dX10_count_116) (fun H locs hP hD hS => ?_)
  have ho := Option.some.inj hf
  subst ho
  rw [hQq]
  exact xs_iret C hr hlk hP hD hS dX10_count_119
set_option maxRecDepth 100000 in
set_option maxHeartbeats 8000000 in
theorem mX10_encounterOf (l : Launch) {X : xsX} {kIsKept kIsStale hiLatest hiSize scLength scFault scAt scNumber piSegmentsNow enKind enFromX enFromY enToX enToY tiMeetingPairs tiAlongPairs tiSize evSize evCrossings evSegmentsNow grEdges grQueued huSize huBestX huBestY : Int32} {scBytes scTold tiTouching tiLyingAlong evBundle evCrossingOf evEventOf evLeftEvent evRightEvent grDegree grFar grQueue huX huY : Nat → Int32} {enX enY enLower : Int64} {evX evY evLower : Nat → Int64} {S : Nat → xsV} {Rw : va_W} {g0Lx g0Ly g0Rx g0Ry g0Ti : Nat → Int32} {g0Sz : Int32} (hs_0 : S 0 = (g0Lx, g0Ly, g0Rx, g0Ry, g0Ti, g0Sz)) {a0 : Int32} {a1 : Int32} {out : Int32 × Int64 × Int64 × Int64 × Int32 × Int32 × Int32 × Int32} (hf : fX10_encounterOf enKind enX enY enLower enFromX enFromY enToX enToY g0Lx g0Ly g0Rx g0Ry a0 a1 = some out) : Met l yX10_encounterOf (xsWs yX10_encounterOf cX10_encounterOf 3 (some (.object "CrossingSweep$Encounter"))) { frames := 3, cells := 0, slots := 0, locals := 89 } (xsP X (wK X kIsKept kIsStale hiLatest hiSize scBytes scTold scLength scFault scAt scNumber piSegmentsNow enKind enX enY enLower enFromX enFromY enToX enToY tiTouching tiLyingAlong tiMeetingPairs tiAlongPairs tiSize evX evY evLower evBundle evCrossingOf evEventOf evLeftEvent evRightEvent evSize evCrossings evSegmentsNow grDegree grEdges grFar grQueue grQueued huX huY huSize huBestX huBestY S Rw) [.ref (xsA X 0), .int a0, .int a1]) (xsQr X (xsA X 7) (wK X kIsKept kIsStale hiLatest hiSize scBytes scTold scLength scFault scAt scNumber piSegmentsNow out.1 out.2.1 out.2.2.1 out.2.2.2.1 out.2.2.2.2.1 out.2.2.2.2.2.1 out.2.2.2.2.2.2.1 out.2.2.2.2.2.2.2 tiTouching tiLyingAlong tiMeetingPairs tiAlongPairs tiSize evX evY evLower evBundle evCrossingOf evEventOf evLeftEvent evRightEvent evSize evCrossings evSegmentsNow grDegree grEdges grFar grQueue grQueued huX huY huSize huBestX huBestY S Rw)) 0 0 (xsF X) := by
  refine xs_meth RX10 (by decide) rfl (Nat.le_of_ble_eq_true rfl) ?_
  intro p e s m below meth c ls H locs C hP hD hS hr hlk hl
  have hx := C.1
  have hb := C.2.1
  have hl : lv_has ls 3 [(0, .ref (xsA X 0)), (1, .int a0), (2, .int a1)] := hl
  obtain ⟨Qq, hQq⟩ : ∃ Qq, Qq = xsQr X (xsA X 7) (wK X kIsKept kIsStale hiLatest hiSize scBytes scTold scLength scFault scAt scNumber piSegmentsNow out.1 out.2.1 out.2.2.1 out.2.2.2.1 out.2.2.2.2.1 out.2.2.2.2.2.1 out.2.2.2.2.2.2.1 out.2.2.2.2.2.2.2 tiTouching tiLyingAlong tiMeetingPairs tiAlongPairs tiSize evX evY evLower evBundle evCrossingOf evEventOf evLeftEvent evRightEvent evSize evCrossings evSegmentsNow grDegree grEdges grFar grQueue grQueued huX huY huSize huBestX huBestY S Rw) := ⟨_, rfl⟩
  rw [← hQq]
  unfold fX10_encounterOf at hf
  refine lv_aload_n hx hb dX10_encounterOf_0 rfl (lv_at hl 0 rfl) ?_
  refine xg_X10_39 C hP dX10_encounterOf_1 ?_
  refine xg_X10_357 C hP dX10_encounterOf_4 ?_
  refine lv_aload_n hx hb dX10_encounterOf_7 rfl (lv_at hl 0 rfl) ?_
  refine xg_X10_10 C hP dX10_encounterOf_8 ?_
  refine lv_iload_n hx hb dX10_encounterOf_11 rfl (lv_at hl 1 rfl) ?_
  refine lv_aload_n hx hb dX10_encounterOf_12 rfl (lv_at hl 0 rfl) ?_
  refine xg_X10_10 C hP dX10_encounterOf_13 ?_
  refine lv_iload_n hx hb dX10_encounterOf_16 rfl (lv_at hl 2 rfl) ?_
  replace hf := xsBd_use hf
  obtain ⟨o1, h2, hf⟩ := hf
  refine xs_callv hS (xs_runV (As := [.ref (xsA X 27), .int a0, .ref (xsA X 27), .int a1]) C (mX0_study l (js := 0) (by decide) (jo := 0) (by decide) hs_0 hs_0 h2) w_1130 w_567 w_568 w_110 w_569 hd_X0_study ⟨rfl, rfl, Nat.le_of_ble_eq_true rfl, Nat.le_of_ble_eq_true rfl, Nat.zero_le _, Nat.zero_le _⟩ hP hD hS lk_X0 rfl hl.1 rfl (Nat.le_of_ble_eq_true rfl) dX10_encounterOf_17) (fun H locs hP hD hS => ?_)
  refine lv_aload_n hx hb dX10_encounterOf_20 rfl (lv_at hl 0 rfl) ?_
  refine xg_X10_39 C hP dX10_encounterOf_21 ?_
  refine xg_X10_357 C hP dX10_encounterOf_24 ?_
  have ho := Option.some.inj hf
  subst ho
  rw [hQq]
  exact xs_aret C hr hlk hP hD hS dX10_encounterOf_27
set_option maxRecDepth 100000 in
set_option maxHeartbeats 8000000 in
theorem mX10_divisorOfBoth (l : Launch) {X : xsX} {w : va_W} {a0 : Int64} {a1 : Int64} {out : Int64} (hf : fX10_divisorOfBoth a0 a1 = some out) : Met l yX10_divisorOfBoth (xsWs yX10_divisorOfBoth cX10_divisorOfBoth 11 (some .long)) { frames := 1, cells := 0, slots := 0, locals := 24 } (xsP X (w) [.long a0, .long a1]) (xsQl X out (w)) 0 0 (xsF X) := by
  refine xs_meth RX10 (by decide) rfl (Nat.le_of_ble_eq_true rfl) ?_
  intro p e s m below meth c ls H locs C hP hD hS hr hlk hl
  have hx := C.1
  have hb := C.2.1
  have hl : lv_has ls 11 [(0, .long a0), (2, .long a1)] := hl
  obtain ⟨Qq, hQq⟩ : ∃ Qq, Qq = xsQl X out (w) := ⟨_, rfl⟩
  rw [← hQq]
  unfold fX10_divisorOfBoth at hf
  refine lv_lload_n hx hb dX10_divisorOfBoth_0 rfl (lv_at hl 0 rfl) ?_
  refine va_mabs_long hx hb (C.2.2.1.trans hl.1.symm) C.2.2.2.1 (xs_kts C _ w_1153) (xs_kts C _ w_763) (xs_kts C _ w_125) (xs_kts C _ w_764) (Nat.le_of_ble_eq_true rfl) (Nat.le_of_ble_eq_true rfl) (Nat.zero_le _) (Nat.zero_le _) dX10_divisorOfBoth_1 ?_
  refine lv_topl (fun x1 ex1 => ?_)
  replace hf := xsLt_use ex1 hf
  refine lv_lstore (lv' := [(4, .long x1), (0, .long a0), (2, .long a1)]) hx hb dX10_divisorOfBoth_4 hl (by decide) rfl (fun ls hl => ?_)
  refine lv_lload_n hx hb dX10_divisorOfBoth_6 rfl (lv_at hl 2 rfl) ?_
  refine va_mabs_long hx hb (C.2.2.1.trans hl.1.symm) C.2.2.2.1 (xs_kts C _ w_1153) (xs_kts C _ w_763) (xs_kts C _ w_125) (xs_kts C _ w_764) (Nat.le_of_ble_eq_true rfl) (Nat.le_of_ble_eq_true rfl) (Nat.zero_le _) (Nat.zero_le _) dX10_divisorOfBoth_7 ?_
  refine lv_topl (fun x2 ex2 => ?_)
  replace hf := xsLt_use ex2 hf
  refine lv_lstore (lv' := [(6, .long x2), (4, .long x1), (0, .long a0), (2, .long a1)]) hx hb dX10_divisorOfBoth_10 hl (by decide) rfl (fun ls hl => ?_)
  refine lv_iconst (v := (0 : Int32)) hx hb dX10_divisorOfBoth_12 (by decide) ?_
  refine lv_istore (lv' := [(8, .int (0 : Int32)), (6, .long x2), (4, .long x1), (0, .long a0), (2, .long a1)]) hx hb dX10_divisorOfBoth_13 hl (by decide) rfl (fun ls hl => ?_)
  have K6 : ∀ (y7 : Int64) (hf : fX10_divisorOfBoth_J51 y7 = some out) (H : Heap) (locs : List Loc) (ls : Array Slot), va_P (xsD X) vwCl (w) H → va_D (xsF X) (w) → va_S (xsF X) s.heap H locs → lv_has ls 11 [(4, .long y7)] → W p l e { frames := 1, cells := 0, slots := 0, locals := 24 } s m ([.long a0, .long a1] : List Value).toArray below meth c H locs 0 0 (MQ below Qq ([.long a0, .long a1] : List Value).toArray s 0 0 (xsF X)) (F0 m 51 ls []) := by
    intro y7 hf H locs ls hP hD hS hl
    unfold fX10_divisorOfBoth_J51 at hf
    refine lv_lload hx hb dX10_divisorOfBoth_51 (lv_at hl 0 rfl) ?_
    have ho := Option.some.inj hf
    subst ho
    rw [hQq]
    exact xs_lret C hr hlk hP hD hS dX10_divisorOfBoth_53
  replace hf := xsBd_use hf
  obtain ⟨r6, hk60, hf⟩ := hf
  have L6 : ∀ (sg : Int64 × Int64 × Int32) (rg : Int64), xsWh (fun s6 => fX10_divisorOfBoth_L15 s6.1 s6.2.1 s6.2.2) sg = some rg → (fX10_divisorOfBoth_J51 rg = some out → ∀ (H : Heap) (locs : List Loc) (ls : Array Slot), va_P (xsD X) vwCl (w) H → va_D (xsF X) (w) → va_S (xsF X) s.heap H locs → lv_has ls 11 [(4, .long sg.1), (6, .long sg.2.1), (8, .int sg.2.2)] → W p l e { frames := 1, cells := 0, slots := 0, locals := 24 } s m ([.long a0, .long a1] : List Value).toArray below meth c H locs 0 0 (MQ below Qq ([.long a0, .long a1] : List Value).toArray s 0 0 (xsF X)) (F0 m 15 ls [])) := by
    refine xsWh_ind ?_
    intro sg r6 u6 hf ih6 hx6 hk6 H locs ls hP hD hS hl
    obtain ⟨y3, y4, y5⟩ := sg
    replace hf : fX10_divisorOfBoth_L15 y3 y4 y5 = some u6 := hf
    replace hl : lv_has ls 11 [(4, .long y3), (6, .long y4), (8, .int y5)] := hl
    replace hP : va_P (xsD X) vwCl (w) H := hP
    replace hD : va_D (xsF X) (w) := hD
    unfold fX10_divisorOfBoth_L15 at hf
    refine lv_iload hx hb dX10_divisorOfBoth_15 (lv_at hl 2 rfl) ?_
    refine lv_sipush (v := (128 : Int32)) hx hb dX10_divisorOfBoth_17 (by decide) ?_
    refine lv_icmp_ge (tgt := 51) hx hb dX10_divisorOfBoth_20 (by decide) (fun c12 => ?_) (fun c12 => ?_)
    · replace hf := xsBr_t c12 hf
      have ez := hx6 _ (Option.some.inj hf).symm
      subst ez
      exact K6 y3 hk6 H locs ls hP hD hS (lv_sub hl [0] rfl)
    · replace hf := xsBr_f c12 hf
      refine lv_lload hx hb dX10_divisorOfBoth_23 (lv_at hl 1 rfl) ?_
      refine lv_lconst (v := (0 : Int64)) hx hb dX10_divisorOfBoth_25 (by decide) ?_
      refine xs_lcmp_eq (tgt := 51) C dX10_divisorOfBoth_26 dX10_divisorOfBoth_27 (by decide) (fun c11 => ?_) (fun c11 => ?_)
      · replace hf := xsBr_t c11 hf
        have ez := hx6 _ (Option.some.inj hf).symm
        subst ez
        exact K6 y3 hk6 H locs ls hP hD hS (lv_sub hl [0] rfl)
      · replace hf := xsBr_f c11 hf
        refine lv_lload hx hb dX10_divisorOfBoth_30 (lv_at hl 0 rfl) ?_
        refine lv_lload hx hb dX10_divisorOfBoth_32 (lv_at hl 1 rfl) ?_
        replace hf := xsCk_use hf
        obtain ⟨h8, hf⟩ := hf
        refine lv_lrem hx hb dX10_divisorOfBoth_34 h8 ?_
        refine lv_topl (fun x9 ex9 => ?_)
        replace hf := xsLt_use ex9 hf
        refine lv_lstore (lv' := [(9, .long x9), (4, .long y3), (6, .long y4), (8, .int y5)]) hx hb dX10_divisorOfBoth_35 hl (by decide) rfl (fun ls hl => ?_)
        refine lv_lload hx hb dX10_divisorOfBoth_37 (lv_at hl 2 rfl) ?_
        refine lv_lstore (lv' := [(4, .long y4), (9, .long x9), (6, .long y4), (8, .int y5)]) hx hb dX10_divisorOfBoth_39 hl (by decide) rfl (fun ls hl => ?_)
        refine lv_lload hx hb dX10_divisorOfBoth_41 (lv_at hl 1 rfl) ?_
        refine lv_lstore (lv' := [(6, .long x9), (4, .long y4), (9, .long x9), (8, .int y5)]) hx hb dX10_divisorOfBoth_43 hl (by decide) rfl (fun ls hl => ?_)
        obtain ⟨x10, ex10⟩ : ∃ y : Int32, y = y5 + (1 : Int32) := ⟨_, rfl⟩
        replace hf := xsLt_use ex10 hf
        refine lv_iinc (v := x10) (lv' := [(8, .int x10), (6, .long x9), (4, .long y4), (9, .long x9)]) hx hb dX10_divisorOfBoth_45 hl (k := 3) rfl (by rw [ex10]; rfl) (by decide) rfl (fun ls hl => ?_)
        refine lv_goto (tgt := 15) hx hb dX10_divisorOfBoth_48 (by decide) ?_
        exact ih6 _ (Option.some.inj hf).symm hk6 H locs ls hP hD hS (lv_sub hl [2, 1, 0] rfl)
  exact L6 (x1, x2, (0 : Int32)) r6 hk60 hf H locs ls hP hD hS (lv_sub hl [2, 1, 0] rfl)
set_option maxRecDepth 100000 in
set_option maxHeartbeats 8000000 in
theorem mX10_partOfPoint (l : Launch) {X : xsX} {w : va_W} {a0 : Int64} {a1 : Int64} {a2 : Int64} {a3 : Int32} {out : Int64} (hf : fX10_partOfPoint a0 a1 a2 a3 = some out) : Met l yX10_partOfPoint (xsWs yX10_partOfPoint cX10_partOfPoint 11 (some .long)) { frames := 2, cells := 0, slots := 0, locals := 54 } (xsP X (w) [.long a0, .long a1, .long a2, .int a3]) (xsQl X out (w)) 0 0 (xsF X) := by
  refine xs_meth RX10 (by decide) rfl (Nat.le_of_ble_eq_true rfl) ?_
  intro p e s m below meth c ls H locs C hP hD hS hr hlk hl
  have hx := C.1
  have hb := C.2.1
  have hl : lv_has ls 11 [(0, .long a0), (2, .long a1), (4, .long a2), (6, .int a3)] := hl
  obtain ⟨Qq, hQq⟩ : ∃ Qq, Qq = xsQl X out (w) := ⟨_, rfl⟩
  rw [← hQq]
  unfold fX10_partOfPoint at hf
  refine lv_iload hx hb dX10_partOfPoint_0 (lv_at hl 3 rfl) ?_
  refine lv_iconst (v := (2 : Int32)) hx hb dX10_partOfPoint_2 (by decide) ?_
  have K11 : ∀ (y1 : Int64) (hf : fX10_partOfPoint_J11 a2 a3 y1 = some out) (H : Heap) (locs : List Loc) (ls : Array Slot), va_P (xsD X) vwCl (w) H → va_D (xsF X) (w) → va_S (xsF X) s.heap H locs → lv_has ls 11 [(4, .long a2), (6, .int a3)] → W p l e { frames := 2, cells := 0, slots := 0, locals := 54 } s m ([.long a0, .long a1, .long a2, .int a3] : List Value).toArray below meth c H locs 0 0 (MQ below Qq ([.long a0, .long a1, .long a2, .int a3] : List Value).toArray s 0 0 (xsF X)) (F0 m 11 ls [.long y1]) := by
    intro y1 hf H locs ls hP hD hS hl
    unfold fX10_partOfPoint_J11 at hf
    refine lv_lstore (lv' := [(7, .long y1), (4, .long a2), (6, .int a3)]) hx hb dX10_partOfPoint_11 hl (by decide) rfl (fun ls hl => ?_)
    refine lv_lload hx hb dX10_partOfPoint_13 (lv_at hl 0 rfl) ?_
    refine lv_lload hx hb dX10_partOfPoint_15 (lv_at hl 1 rfl) ?_
    replace hf := xsBd_use hf
    obtain ⟨o2, h3, hf⟩ := hf
    refine xs_calll hS (xs_runS (As := [.long y1, .long a2]) C (mX10_divisorOfBoth l  h3) w_1150 w_1151 w_105 w_1152 hd_X10_divisorOfBoth ⟨rfl, rfl, Nat.le_of_ble_eq_true rfl, Nat.le_of_ble_eq_true rfl, Nat.zero_le _, Nat.zero_le _⟩ hP hD hS hl.1 rfl (Nat.le_of_ble_eq_true rfl) dX10_partOfPoint_17) (fun H locs hP hD hS => ?_)
    refine lv_lstore (lv' := [(9, .long o2), (7, .long y1), (4, .long a2), (6, .int a3)]) hx hb dX10_partOfPoint_20 hl (by decide) rfl (fun ls hl => ?_)
    refine lv_lload hx hb dX10_partOfPoint_22 (lv_at hl 0 rfl) ?_
    refine lv_lconst (v := (0 : Int64)) hx hb dX10_partOfPoint_24 (by decide) ?_
    refine xs_lcmp_ne (tgt := 31) C dX10_partOfPoint_25 dX10_partOfPoint_26 (by decide) (fun c8 => ?_) (fun c8 => ?_)
    · replace hf := xsBr_f c8 hf
      refine lv_iload hx hb dX10_partOfPoint_31 (lv_at hl 3 rfl) ?_
      refine lv_iconst (v := (2 : Int32)) hx hb dX10_partOfPoint_33 (by decide) ?_
      replace hf := xsCk_use hf
      obtain ⟨h4, hf⟩ := hf
      refine lv_irem hx hb dX10_partOfPoint_34 h4 ?_
      refine lv_if_ne (tgt := 46) hx hb dX10_partOfPoint_35 (by decide) (fun c7 => ?_) (fun c7 => ?_)
      · replace hf := xsBr_f c7 hf
        refine lv_lload hx hb dX10_partOfPoint_46 (lv_at hl 2 rfl) ?_
        refine lv_lload hx hb dX10_partOfPoint_48 (lv_at hl 0 rfl) ?_
        replace hf := xsCk_use hf
        obtain ⟨h5, hf⟩ := hf
        refine lv_ldiv hx hb dX10_partOfPoint_50 h5 ?_
        have ho := Option.some.inj hf
        subst ho
        rw [hQq]
        exact xs_lret C hr hlk hP hD hS dX10_partOfPoint_51
      · replace hf := xsBr_t c7 hf
        refine lv_lload hx hb dX10_partOfPoint_38 (lv_at hl 1 rfl) ?_
        refine lv_lload hx hb dX10_partOfPoint_40 (lv_at hl 0 rfl) ?_
        replace hf := xsCk_use hf
        obtain ⟨h6, hf⟩ := hf
        refine lv_ldiv hx hb dX10_partOfPoint_42 h6 ?_
        refine lv_goto (tgt := 51) hx hb dX10_partOfPoint_43 (by decide) ?_
        have ho := Option.some.inj hf
        subst ho
        rw [hQq]
        exact xs_lret C hr hlk hP hD hS dX10_partOfPoint_51
    · replace hf := xsBr_t c8 hf
      refine lv_lconst (v := (0 : Int64)) hx hb dX10_partOfPoint_29 (by decide) ?_
      have ho := Option.some.inj hf
      subst ho
      rw [hQq]
      exact xs_lret C hr hlk hP hD hS dX10_partOfPoint_30
  replace hf := xsBd_use hf
  obtain ⟨v9, hf, hk10⟩ := hf
  refine lv_icmp_ge (tgt := 10) hx hb dX10_partOfPoint_3 (by decide) (fun c12 => ?_) (fun c12 => ?_)
  · replace hf := xsBr_t c12 hf
    refine lv_lload_n hx hb dX10_partOfPoint_10 rfl (lv_at hl 1 rfl) ?_
    have ev := Option.some.inj hf
    subst ev
    exact K11 a1 hk10 H locs ls hP hD hS (lv_sub hl [2, 3] rfl)
  · replace hf := xsBr_f c12 hf
    refine lv_lload_n hx hb dX10_partOfPoint_6 rfl (lv_at hl 0 rfl) ?_
    refine lv_goto (tgt := 11) hx hb dX10_partOfPoint_7 (by decide) ?_
    have ev := Option.some.inj hf
    subst ev
    exact K11 a0 hk10 H locs ls hP hD hS (lv_sub hl [2, 3] rfl)
set_option maxRecDepth 100000 in
set_option maxHeartbeats 8000000 in
theorem mX11_thrown (l : Launch) {X : xsX} {mThrown mRemembered mHasImage mIsLaid mEvents mCrossings mEdges mTaped mPoint mEnd mBegin mFaultAt mActs : Int32} {mWorld mImage mDraft mEarlier mOne mTwo mShare mCrossingOf mBundle mEventOf mDegree mFrom mTo mMet mTape mFive mTold mFar mViews mHullX mHullY mEndX mEndY mMeets mMeetsOf : Nat → Int32} {mX mY mD mHeightUp mHeightLow : Int64} {mEventX mEventY mEventD mUpper mLower : Nat → Int64} {Rw : va_W} {out : Int32} (hf : fX11_thrown mThrown = some out) : Met l yX11_thrown (xsWs yX11_thrown cX11_thrown 1 (some .int)) { frames := 0, cells := 0, slots := 0, locals := 0 } (xsP X (wM X mThrown mWorld mImage mDraft mEarlier mRemembered mHasImage mIsLaid mOne mTwo mShare mX mY mD mEventX mEventY mEventD mEvents mCrossingOf mBundle mEventOf mDegree mFrom mTo mCrossings mEdges mMet mUpper mLower mTape mTaped mPoint mEnd mBegin mFaultAt mFive mTold mActs mFar mViews mHullX mHullY mEndX mEndY mHeightUp mHeightLow mMeets mMeetsOf Rw) [.ref (xsA X 100)]) (xsQi X out (wM X mThrown mWorld mImage mDraft mEarlier mRemembered mHasImage mIsLaid mOne mTwo mShare mX mY mD mEventX mEventY mEventD mEvents mCrossingOf mBundle mEventOf mDegree mFrom mTo mCrossings mEdges mMet mUpper mLower mTape mTaped mPoint mEnd mBegin mFaultAt mFive mTold mActs mFar mViews mHullX mHullY mEndX mEndY mHeightUp mHeightLow mMeets mMeetsOf Rw)) 0 0 (xsF X) := by
  refine xs_meth RX11 (by decide) rfl (Nat.le_of_ble_eq_true rfl) ?_
  intro p e s m below meth c ls H locs C hP hD hS hr hlk hl
  have hx := C.1
  have hb := C.2.1
  have hl : lv_has ls 1 [(0, .ref (xsA X 100))] := hl
  obtain ⟨Qq, hQq⟩ : ∃ Qq, Qq = xsQi X out (wM X mThrown mWorld mImage mDraft mEarlier mRemembered mHasImage mIsLaid mOne mTwo mShare mX mY mD mEventX mEventY mEventD mEvents mCrossingOf mBundle mEventOf mDegree mFrom mTo mCrossings mEdges mMet mUpper mLower mTape mTaped mPoint mEnd mBegin mFaultAt mFive mTold mActs mFar mViews mHullX mHullY mEndX mEndY mHeightUp mHeightLow mMeets mMeetsOf Rw) := ⟨_, rfl⟩
  rw [← hQq]
  unfold fX11_thrown at hf
  refine lv_aload_n hx hb dX11_thrown_0 rfl (lv_at hl 0 rfl) ?_
  refine xg_X11_3 C hP dX11_thrown_1 ?_
  have ho := Option.some.inj hf
  subst ho
  rw [hQq]
  exact xs_iret C hr hlk hP hD hS dX11_thrown_4
set_option maxRecDepth 100000 in
set_option maxHeartbeats 8000000 in
theorem mX11_throwsIf (l : Launch) {X : xsX} {mThrown mRemembered mHasImage mIsLaid mEvents mCrossings mEdges mTaped mPoint mEnd mBegin mFaultAt mActs : Int32} {mWorld mImage mDraft mEarlier mOne mTwo mShare mCrossingOf mBundle mEventOf mDegree mFrom mTo mMet mTape mFive mTold mFar mViews mHullX mHullY mEndX mEndY mMeets mMeetsOf : Nat → Int32} {mX mY mD mHeightUp mHeightLow : Int64} {mEventX mEventY mEventD mUpper mLower : Nat → Int64} {Rw : va_W} {a0 : Int32} {a1 : Int32} {out : Int32 × Int32} (hf : fX11_throwsIf mThrown a0 a1 = some out) : Met l yX11_throwsIf (xsWs yX11_throwsIf cX11_throwsIf 3 (some .boolean)) { frames := 0, cells := 0, slots := 0, locals := 0 } (xsP X (wM X mThrown mWorld mImage mDraft mEarlier mRemembered mHasImage mIsLaid mOne mTwo mShare mX mY mD mEventX mEventY mEventD mEvents mCrossingOf mBundle mEventOf mDegree mFrom mTo mCrossings mEdges mMet mUpper mLower mTape mTaped mPoint mEnd mBegin mFaultAt mFive mTold mActs mFar mViews mHullX mHullY mEndX mEndY mHeightUp mHeightLow mMeets mMeetsOf Rw) [.ref (xsA X 100), .int a0, .int a1]) (xsQi X out.1 (wM X out.2 mWorld mImage mDraft mEarlier mRemembered mHasImage mIsLaid mOne mTwo mShare mX mY mD mEventX mEventY mEventD mEvents mCrossingOf mBundle mEventOf mDegree mFrom mTo mCrossings mEdges mMet mUpper mLower mTape mTaped mPoint mEnd mBegin mFaultAt mFive mTold mActs mFar mViews mHullX mHullY mEndX mEndY mHeightUp mHeightLow mMeets mMeetsOf Rw)) 0 0 (xsF X) := by
  refine xs_meth RX11 (by decide) rfl (Nat.le_of_ble_eq_true rfl) ?_
  intro p e s m below meth c ls H locs C hP hD hS hr hlk hl
  have hx := C.1
  have hb := C.2.1
  have hl : lv_has ls 3 [(0, .ref (xsA X 100)), (1, .int a0), (2, .int a1)] := hl
  obtain ⟨Qq, hQq⟩ : ∃ Qq, Qq = xsQi X out.1 (wM X out.2 mWorld mImage mDraft mEarlier mRemembered mHasImage mIsLaid mOne mTwo mShare mX mY mD mEventX mEventY mEventD mEvents mCrossingOf mBundle mEventOf mDegree mFrom mTo mCrossings mEdges mMet mUpper mLower mTape mTaped mPoint mEnd mBegin mFaultAt mFive mTold mActs mFar mViews mHullX mHullY mEndX mEndY mHeightUp mHeightLow mMeets mMeetsOf Rw) := ⟨_, rfl⟩
  rw [← hQq]
  unfold fX11_throwsIf at hf
  refine lv_iload_n hx hb dX11_throwsIf_0 rfl (lv_at hl 1 rfl) ?_
  refine lv_if_eq (tgt := 9) hx hb dX11_throwsIf_1 (by decide) (fun c3 => ?_) (fun c3 => ?_)
  · replace hf := xsBr_t c3 hf
    refine lv_iload_n hx hb dX11_throwsIf_9 rfl (lv_at hl 1 rfl) ?_
    replace hf := xsCk_use hf
    obtain ⟨h1, hf⟩ := hf
    have ho := Option.some.inj hf
    subst ho
    rw [hQq]
    exact xs_zret C hr hlk h1 hP hD hS dX11_throwsIf_10
  · replace hf := xsBr_f c3 hf
    refine lv_aload_n hx hb dX11_throwsIf_4 rfl (lv_at hl 0 rfl) ?_
    refine lv_iload_n hx hb dX11_throwsIf_5 rfl (lv_at hl 2 rfl) ?_
    refine xp_X11_3 C hP hD hS dX11_throwsIf_6 (fun H locs hP hD hS => ?_)
    refine lv_iload_n hx hb dX11_throwsIf_9 rfl (lv_at hl 1 rfl) ?_
    replace hf := xsCk_use hf
    obtain ⟨h2, hf⟩ := hf
    have ho := Option.some.inj hf
    subst ho
    rw [hQq]
    exact xs_zret C hr hlk h2 hP hD hS dX11_throwsIf_10
set_option maxRecDepth 100000 in
set_option maxHeartbeats 8000000 in
theorem mX11_in (l : Launch) {X : xsX} {w : va_W} {a0 : Int64} {a1 : Int64} {a2 : Int64} {out : Int32} (hf : fX11_in a0 a1 a2 = some out) : Met l yX11_in (xsWs yX11_in cX11_in 6 (some .boolean)) { frames := 0, cells := 0, slots := 0, locals := 0 } (xsP X (w) [.long a0, .long a1, .long a2]) (xsQi X out (w)) 0 0 (xsF X) := by
  refine xs_meth RX11 (by decide) rfl (Nat.le_of_ble_eq_true rfl) ?_
  intro p e s m below meth c ls H locs C hP hD hS hr hlk hl
  have hx := C.1
  have hb := C.2.1
  have hl : lv_has ls 6 [(0, .long a0), (2, .long a1), (4, .long a2)] := hl
  obtain ⟨Qq, hQq⟩ : ∃ Qq, Qq = xsQi X out (w) := ⟨_, rfl⟩
  rw [← hQq]
  unfold fX11_in at hf
  refine lv_lload_n hx hb dX11_in_0 rfl (lv_at hl 0 rfl) ?_
  refine lv_lload_n hx hb dX11_in_1 rfl (lv_at hl 1 rfl) ?_
  refine xs_lcmp_lt (tgt := 17) C dX11_in_2 dX11_in_3 (by decide) (fun c2 => ?_) (fun c2 => ?_)
  · replace hf := xsBr_t c2 hf
    refine lv_iconst (v := (0 : Int32)) hx hb dX11_in_17 (by decide) ?_
    have ho := Option.some.inj hf
    subst ho
    rw [hQq]
    exact xs_zret C hr hlk xsB_0 hP hD hS dX11_in_18
  · replace hf := xsBr_f c2 hf
    refine lv_lload_n hx hb dX11_in_6 rfl (lv_at hl 0 rfl) ?_
    refine lv_lload hx hb dX11_in_7 (lv_at hl 2 rfl) ?_
    refine xs_lcmp_gt (tgt := 17) C dX11_in_9 dX11_in_10 (by decide) (fun c1 => ?_) (fun c1 => ?_)
    · replace hf := xsBr_t c1 hf
      refine lv_iconst (v := (0 : Int32)) hx hb dX11_in_17 (by decide) ?_
      have ho := Option.some.inj hf
      subst ho
      rw [hQq]
      exact xs_zret C hr hlk xsB_0 hP hD hS dX11_in_18
    · replace hf := xsBr_f c1 hf
      refine lv_iconst (v := (1 : Int32)) hx hb dX11_in_13 (by decide) ?_
      refine lv_goto (tgt := 18) hx hb dX11_in_14 (by decide) ?_
      have ho := Option.some.inj hf
      subst ho
      rw [hQq]
      exact xs_zret C hr hlk xsB_1 hP hD hS dX11_in_18
set_option maxRecDepth 100000 in
set_option maxHeartbeats 8000000 in
theorem mX11_holds (l : Launch) {X : xsX} {w : va_W} {a0 : Int32} {a1 : Int32} {out : Int32} (hf : fX11_holds a0 a1 = some out) : Met l yX11_holds (xsWs yX11_holds cX11_holds 2 (some .boolean)) { frames := 0, cells := 0, slots := 0, locals := 0 } (xsP X (w) [.int a0, .int a1]) (xsQi X out (w)) 0 0 (xsF X) := by
  refine xs_meth RX11 (by decide) rfl (Nat.le_of_ble_eq_true rfl) ?_
  intro p e s m below meth c ls H locs C hP hD hS hr hlk hl
  have hx := C.1
  have hb := C.2.1
  have hl : lv_has ls 2 [(0, .int a0), (1, .int a1)] := hl
  obtain ⟨Qq, hQq⟩ : ∃ Qq, Qq = xsQi X out (w) := ⟨_, rfl⟩
  rw [← hQq]
  unfold fX11_holds at hf
  refine lv_iload_n hx hb dX11_holds_0 rfl (lv_at hl 0 rfl) ?_
  refine lv_iload_n hx hb dX11_holds_1 rfl (lv_at hl 1 rfl) ?_
  refine lv_ishr hx hb dX11_holds_2 ?_
  refine lv_iconst (v := (1 : Int32)) hx hb dX11_holds_3 (by decide) ?_
  refine lv_iand hx hb dX11_holds_4 ?_
  refine lv_iconst (v := (1 : Int32)) hx hb dX11_holds_5 (by decide) ?_
  refine lv_icmp_ne (tgt := 13) hx hb dX11_holds_6 (by decide) (fun c1 => ?_) (fun c1 => ?_)
  · replace hf := xsBr_f c1 hf
    refine lv_iconst (v := (0 : Int32)) hx hb dX11_holds_13 (by decide) ?_
    have ho := Option.some.inj hf
    subst ho
    rw [hQq]
    exact xs_zret C hr hlk xsB_0 hP hD hS dX11_holds_14
  · replace hf := xsBr_t c1 hf
    refine lv_iconst (v := (1 : Int32)) hx hb dX11_holds_9 (by decide) ?_
    refine lv_goto (tgt := 14) hx hb dX11_holds_10 (by decide) ?_
    have ho := Option.some.inj hf
    subst ho
    rw [hQq]
    exact xs_zret C hr hlk xsB_1 hP hD hS dX11_holds_14
set_option maxRecDepth 100000 in
set_option maxHeartbeats 8000000 in
theorem mX11_bits (l : Launch) {X : xsX} {w : va_W} {a0 : Int32} {out : Int32} (hf : fX11_bits a0 = some out) : Met l yX11_bits (xsWs yX11_bits cX11_bits 3 (some .int)) { frames := 0, cells := 0, slots := 0, locals := 0 } (xsP X (w) [.int a0]) (xsQi X out (w)) 0 0 (xsF X) := by
  refine xs_meth RX11 (by decide) rfl (Nat.le_of_ble_eq_true rfl) ?_
  intro p e s m below meth c ls H locs C hP hD hS hr hlk hl
  have hx := C.1
  have hb := C.2.1
  have hl : lv_has ls 3 [(0, .int a0)] := hl
  obtain ⟨Qq, hQq⟩ : ∃ Qq, Qq = xsQi X out (w) := ⟨_, rfl⟩
  rw [← hQq]
  unfold fX11_bits at hf
  refine lv_iconst (v := (0 : Int32)) hx hb dX11_bits_0 (by decide) ?_
  refine lv_istore_n (lv' := [(1, .int (0 : Int32)), (0, .int a0)]) hx hb dX11_bits_1 rfl hl (by decide) rfl (fun ls hl => ?_)
  refine lv_iconst (v := (0 : Int32)) hx hb dX11_bits_2 (by decide) ?_
  refine lv_istore_n (lv' := [(2, .int (0 : Int32)), (1, .int (0 : Int32)), (0, .int a0)]) hx hb dX11_bits_3 rfl hl (by decide) rfl (fun ls hl => ?_)
  have K3 : ∀ (y4 : Int32) (hf : fX11_bits_J24 y4 = some out) (H : Heap) (locs : List Loc) (ls : Array Slot), va_P (xsD X) vwCl (w) H → va_D (xsF X) (w) → va_S (xsF X) s.heap H locs → lv_has ls 3 [(1, .int y4)] → W p l e { frames := 0, cells := 0, slots := 0, locals := 0 } s m ([.int a0] : List Value).toArray below meth c H locs 0 0 (MQ below Qq ([.int a0] : List Value).toArray s 0 0 (xsF X)) (F0 m 24 ls []) := by
    intro y4 hf H locs ls hP hD hS hl
    unfold fX11_bits_J24 at hf
    refine lv_iload_n hx hb dX11_bits_24 rfl (lv_at hl 0 rfl) ?_
    have ho := Option.some.inj hf
    subst ho
    rw [hQq]
    exact xs_iret C hr hlk hP hD hS dX11_bits_25
  replace hf := xsBd_use hf
  obtain ⟨r3, hk30, hf⟩ := hf
  have L3 : ∀ (sg : Int32 × Int32) (rg : Int32), xsWh (fun s3 => fX11_bits_L4 a0 s3.1 s3.2) sg = some rg → (fX11_bits_J24 rg = some out → ∀ (H : Heap) (locs : List Loc) (ls : Array Slot), va_P (xsD X) vwCl (w) H → va_D (xsF X) (w) → va_S (xsF X) s.heap H locs → lv_has ls 3 [(0, .int a0), (1, .int sg.1), (2, .int sg.2)] → W p l e { frames := 0, cells := 0, slots := 0, locals := 0 } s m ([.int a0] : List Value).toArray below meth c H locs 0 0 (MQ below Qq ([.int a0] : List Value).toArray s 0 0 (xsF X)) (F0 m 4 ls [])) := by
    refine xsWh_ind ?_
    intro sg r3 u3 hf ih3 hx3 hk3 H locs ls hP hD hS hl
    obtain ⟨y1, y2⟩ := sg
    replace hf : fX11_bits_L4 a0 y1 y2 = some u3 := hf
    replace hl : lv_has ls 3 [(0, .int a0), (1, .int y1), (2, .int y2)] := hl
    replace hP : va_P (xsD X) vwCl (w) H := hP
    replace hD : va_D (xsF X) (w) := hD
    unfold fX11_bits_L4 at hf
    refine lv_iload_n hx hb dX11_bits_4 rfl (lv_at hl 2 rfl) ?_
    refine lv_bipush (v := (24 : Int32)) hx hb dX11_bits_5 (by decide) ?_
    refine lv_icmp_ge (tgt := 24) hx hb dX11_bits_7 (by decide) (fun c7 => ?_) (fun c7 => ?_)
    · replace hf := xsBr_t c7 hf
      have ez := hx3 _ (Option.some.inj hf).symm
      subst ez
      exact K3 y1 hk3 H locs ls hP hD hS (lv_sub hl [1] rfl)
    · replace hf := xsBr_f c7 hf
      refine lv_iload_n hx hb dX11_bits_10 rfl (lv_at hl 1 rfl) ?_
      refine lv_iload_n hx hb dX11_bits_11 rfl (lv_at hl 0 rfl) ?_
      refine lv_iload_n hx hb dX11_bits_12 rfl (lv_at hl 2 rfl) ?_
      refine lv_ishr hx hb dX11_bits_13 ?_
      refine lv_iconst (v := (1 : Int32)) hx hb dX11_bits_14 (by decide) ?_
      refine lv_iand hx hb dX11_bits_15 ?_
      refine lv_iadd hx hb dX11_bits_16 ?_
      refine lv_topi (fun x5 ex5 => ?_)
      replace hf := xsLt_use ex5 hf
      refine lv_istore_n (lv' := [(1, .int x5), (0, .int a0), (2, .int y2)]) hx hb dX11_bits_17 rfl hl (by decide) rfl (fun ls hl => ?_)
      obtain ⟨x6, ex6⟩ : ∃ y : Int32, y = y2 + (1 : Int32) := ⟨_, rfl⟩
      replace hf := xsLt_use ex6 hf
      refine lv_iinc (v := x6) (lv' := [(2, .int x6), (1, .int x5), (0, .int a0)]) hx hb dX11_bits_18 hl (k := 2) rfl (by rw [ex6]; rfl) (by decide) rfl (fun ls hl => ?_)
      refine lv_goto (tgt := 4) hx hb dX11_bits_21 (by decide) ?_
      exact ih3 _ (Option.some.inj hf).symm hk3 H locs ls hP hD hS (lv_sub hl [2, 1, 0] rfl)
  exact L3 ((0 : Int32), (0 : Int32)) r3 hk30 hf H locs ls hP hD hS (lv_sub hl [2, 1, 0] rfl)
set_option maxRecDepth 100000 in
set_option maxHeartbeats 8000000 in
theorem mX11_many (l : Launch) {X : xsX} {mThrown mRemembered mHasImage mIsLaid mEvents mCrossings mEdges mTaped mPoint mEnd mBegin mFaultAt mActs : Int32} {mWorld mImage mDraft mEarlier mOne mTwo mShare mCrossingOf mBundle mEventOf mDegree mFrom mTo mMet mTape mFive mTold mFar mViews mHullX mHullY mEndX mEndY mMeets mMeetsOf : Nat → Int32} {mX mY mD mHeightUp mHeightLow : Int64} {mEventX mEventY mEventD mUpper mLower : Nat → Int64} {Rw : va_W} {out : Int32} (hf : fX11_many mWorld = some out) : Met l yX11_many (xsWs yX11_many cX11_many 1 (some .int)) { frames := 0, cells := 0, slots := 0, locals := 0 } (xsP X (wM X mThrown mWorld mImage mDraft mEarlier mRemembered mHasImage mIsLaid mOne mTwo mShare mX mY mD mEventX mEventY mEventD mEvents mCrossingOf mBundle mEventOf mDegree mFrom mTo mCrossings mEdges mMet mUpper mLower mTape mTaped mPoint mEnd mBegin mFaultAt mFive mTold mActs mFar mViews mHullX mHullY mEndX mEndY mHeightUp mHeightLow mMeets mMeetsOf Rw) [.ref (xsA X 100)]) (xsQi X out (wM X mThrown mWorld mImage mDraft mEarlier mRemembered mHasImage mIsLaid mOne mTwo mShare mX mY mD mEventX mEventY mEventD mEvents mCrossingOf mBundle mEventOf mDegree mFrom mTo mCrossings mEdges mMet mUpper mLower mTape mTaped mPoint mEnd mBegin mFaultAt mFive mTold mActs mFar mViews mHullX mHullY mEndX mEndY mHeightUp mHeightLow mMeets mMeetsOf Rw)) 0 0 (xsF X) := by
  refine xs_meth RX11 (by decide) rfl (Nat.le_of_ble_eq_true rfl) ?_
  intro p e s m below meth c ls H locs C hP hD hS hr hlk hl
  have hx := C.1
  have hb := C.2.1
  have hl : lv_has ls 1 [(0, .ref (xsA X 100))] := hl
  obtain ⟨Qq, hQq⟩ : ∃ Qq, Qq = xsQi X out (wM X mThrown mWorld mImage mDraft mEarlier mRemembered mHasImage mIsLaid mOne mTwo mShare mX mY mD mEventX mEventY mEventD mEvents mCrossingOf mBundle mEventOf mDegree mFrom mTo mCrossings mEdges mMet mUpper mLower mTape mTaped mPoint mEnd mBegin mFaultAt mFive mTold mActs mFar mViews mHullX mHullY mEndX mEndY mHeightUp mHeightLow mMeets mMeetsOf Rw) := ⟨_, rfl⟩
  rw [← hQq]
  unfold fX11_many at hf
  refine lv_aload_n hx hb dX11_many_0 rfl (lv_at hl 0 rfl) ?_
  refine xg_X11_13 C hP dX11_many_1 ?_
  refine lv_iconst (v := (0 : Int32)) hx hb dX11_many_4 (by decide) ?_
  replace hf := xsCk_use hf
  obtain ⟨h1, hf⟩ := hf
  refine xl_mWorld C hP h1 dX11_many_5 ?_
  have ho := Option.some.inj hf
  subst ho
  rw [hQq]
  exact xs_iret C hr hlk hP hD hS dX11_many_6
set_option maxRecDepth 100000 in
set_option maxHeartbeats 8000000 in
theorem mX11_of (l : Launch) {X : xsX} {mThrown mRemembered mHasImage mIsLaid mEvents mCrossings mEdges mTaped mPoint mEnd mBegin mFaultAt mActs : Int32} {mWorld mImage mDraft mEarlier mOne mTwo mShare mCrossingOf mBundle mEventOf mDegree mFrom mTo mMet mTape mFive mTold mFar mViews mHullX mHullY mEndX mEndY mMeets mMeetsOf : Nat → Int32} {mX mY mD mHeightUp mHeightLow : Int64} {mEventX mEventY mEventD mUpper mLower : Nat → Int64} {Rw : va_W} {a0 : Int32} {a1 : Int32} {out : Int32} (hf : fX11_of mWorld a0 a1 = some out) : Met l yX11_of (xsWs yX11_of cX11_of 3 (some .int)) { frames := 0, cells := 0, slots := 0, locals := 0 } (xsP X (wM X mThrown mWorld mImage mDraft mEarlier mRemembered mHasImage mIsLaid mOne mTwo mShare mX mY mD mEventX mEventY mEventD mEvents mCrossingOf mBundle mEventOf mDegree mFrom mTo mCrossings mEdges mMet mUpper mLower mTape mTaped mPoint mEnd mBegin mFaultAt mFive mTold mActs mFar mViews mHullX mHullY mEndX mEndY mHeightUp mHeightLow mMeets mMeetsOf Rw) [.ref (xsA X 100), .int a0, .int a1]) (xsQi X out (wM X mThrown mWorld mImage mDraft mEarlier mRemembered mHasImage mIsLaid mOne mTwo mShare mX mY mD mEventX mEventY mEventD mEvents mCrossingOf mBundle mEventOf mDegree mFrom mTo mCrossings mEdges mMet mUpper mLower mTape mTaped mPoint mEnd mBegin mFaultAt mFive mTold mActs mFar mViews mHullX mHullY mEndX mEndY mHeightUp mHeightLow mMeets mMeetsOf Rw)) 0 0 (xsF X) := by
  refine xs_meth RX11 (by decide) rfl (Nat.le_of_ble_eq_true rfl) ?_
  intro p e s m below meth c ls H locs C hP hD hS hr hlk hl
  have hx := C.1
  have hb := C.2.1
  have hl : lv_has ls 3 [(0, .ref (xsA X 100)), (1, .int a0), (2, .int a1)] := hl
  obtain ⟨Qq, hQq⟩ : ∃ Qq, Qq = xsQi X out (wM X mThrown mWorld mImage mDraft mEarlier mRemembered mHasImage mIsLaid mOne mTwo mShare mX mY mD mEventX mEventY mEventD mEvents mCrossingOf mBundle mEventOf mDegree mFrom mTo mCrossings mEdges mMet mUpper mLower mTape mTaped mPoint mEnd mBegin mFaultAt mFive mTold mActs mFar mViews mHullX mHullY mEndX mEndY mHeightUp mHeightLow mMeets mMeetsOf Rw) := ⟨_, rfl⟩
  rw [← hQq]
  unfold fX11_of at hf
  refine lv_aload_n hx hb dX11_of_0 rfl (lv_at hl 0 rfl) ?_
  refine xg_X11_13 C hP dX11_of_1 ?_
  refine lv_iconst (v := (1 : Int32)) hx hb dX11_of_4 (by decide) ?_
  refine lv_iconst (v := (5 : Int32)) hx hb dX11_of_5 (by decide) ?_
  refine lv_iload_n hx hb dX11_of_6 rfl (lv_at hl 1 rfl) ?_
  refine lv_imul hx hb dX11_of_7 ?_
  refine lv_iadd hx hb dX11_of_8 ?_
  refine lv_iload_n hx hb dX11_of_9 rfl (lv_at hl 2 rfl) ?_
  refine lv_iadd hx hb dX11_of_10 ?_
  replace hf := xsCk_use hf
  obtain ⟨h1, hf⟩ := hf
  refine xl_mWorld C hP h1 dX11_of_11 ?_
  have ho := Option.some.inj hf
  subst ho
  rw [hQq]
  exact xs_iret C hr hlk hP hD hS dX11_of_12
set_option maxRecDepth 100000 in
set_option maxHeartbeats 8000000 in
theorem mX11_puts (l : Launch) {X : xsX} {mThrown mRemembered mHasImage mIsLaid mEvents mCrossings mEdges mTaped mPoint mEnd mBegin mFaultAt mActs : Int32} {mWorld mImage mDraft mEarlier mOne mTwo mShare mCrossingOf mBundle mEventOf mDegree mFrom mTo mMet mTape mFive mTold mFar mViews mHullX mHullY mEndX mEndY mMeets mMeetsOf : Nat → Int32} {mX mY mD mHeightUp mHeightLow : Int64} {mEventX mEventY mEventD mUpper mLower : Nat → Int64} {Rw : va_W} {a0 : Int32} {a1 : Int32} {a2 : Int32} {a3 : Int32} {a4 : Int32} {a5 : Int32} {out : (Nat → Int32) × Int32} (hf : fX11_puts mWorld mIsLaid a0 a1 a2 a3 a4 a5 = some out) : Met l yX11_puts (xsWs yX11_puts cX11_puts 9 none) { frames := 0, cells := 0, slots := 0, locals := 0 } (xsP X (wM X mThrown mWorld mImage mDraft mEarlier mRemembered mHasImage mIsLaid mOne mTwo mShare mX mY mD mEventX mEventY mEventD mEvents mCrossingOf mBundle mEventOf mDegree mFrom mTo mCrossings mEdges mMet mUpper mLower mTape mTaped mPoint mEnd mBegin mFaultAt mFive mTold mActs mFar mViews mHullX mHullY mEndX mEndY mHeightUp mHeightLow mMeets mMeetsOf Rw) [.ref (xsA X 100), .int a0, .int a1, .int a2, .int a3, .int a4, .int a5]) (xsQv X (wM X mThrown out.1 mImage mDraft mEarlier mRemembered mHasImage out.2 mOne mTwo mShare mX mY mD mEventX mEventY mEventD mEvents mCrossingOf mBundle mEventOf mDegree mFrom mTo mCrossings mEdges mMet mUpper mLower mTape mTaped mPoint mEnd mBegin mFaultAt mFive mTold mActs mFar mViews mHullX mHullY mEndX mEndY mHeightUp mHeightLow mMeets mMeetsOf Rw)) 0 0 (xsF X) := by
  refine xs_meth RX11 (by decide) rfl (Nat.le_of_ble_eq_true rfl) ?_
  intro p e s m below meth c ls H locs C hP hD hS hr hlk hl
  have hx := C.1
  have hb := C.2.1
  have hl : lv_has ls 9 [(0, .ref (xsA X 100)), (1, .int a0), (2, .int a1), (3, .int a2), (4, .int a3), (5, .int a4), (6, .int a5)] := hl
  obtain ⟨Qq, hQq⟩ : ∃ Qq, Qq = xsQv X (wM X mThrown out.1 mImage mDraft mEarlier mRemembered mHasImage out.2 mOne mTwo mShare mX mY mD mEventX mEventY mEventD mEvents mCrossingOf mBundle mEventOf mDegree mFrom mTo mCrossings mEdges mMet mUpper mLower mTape mTaped mPoint mEnd mBegin mFaultAt mFive mTold mActs mFar mViews mHullX mHullY mEndX mEndY mHeightUp mHeightLow mMeets mMeetsOf Rw) := ⟨_, rfl⟩
  rw [← hQq]
  unfold fX11_puts at hf
  refine lv_iload_n hx hb dX11_puts_0 rfl (lv_at hl 2 rfl) ?_
  refine lv_iload hx hb dX11_puts_1 (lv_at hl 4 rfl) ?_
  have K35 : ∀ (y1 : Int32) (hf : fX11_puts_J23 mWorld a0 a1 a2 a3 a4 a5 y1 = some out) (H : Heap) (locs : List Loc) (ls : Array Slot), va_P (xsD X) vwCl (wM X mThrown mWorld mImage mDraft mEarlier mRemembered mHasImage mIsLaid mOne mTwo mShare mX mY mD mEventX mEventY mEventD mEvents mCrossingOf mBundle mEventOf mDegree mFrom mTo mCrossings mEdges mMet mUpper mLower mTape mTaped mPoint mEnd mBegin mFaultAt mFive mTold mActs mFar mViews mHullX mHullY mEndX mEndY mHeightUp mHeightLow mMeets mMeetsOf Rw) H → va_D (xsF X) (wM X mThrown mWorld mImage mDraft mEarlier mRemembered mHasImage mIsLaid mOne mTwo mShare mX mY mD mEventX mEventY mEventD mEvents mCrossingOf mBundle mEventOf mDegree mFrom mTo mCrossings mEdges mMet mUpper mLower mTape mTaped mPoint mEnd mBegin mFaultAt mFive mTold mActs mFar mViews mHullX mHullY mEndX mEndY mHeightUp mHeightLow mMeets mMeetsOf Rw) → va_S (xsF X) s.heap H locs → lv_has ls 9 [(0, .ref (xsA X 100)), (1, .int a0), (2, .int a1), (3, .int a2), (4, .int a3), (5, .int a4), (6, .int a5)] → W p l e { frames := 0, cells := 0, slots := 0, locals := 0 } s m ([.ref (xsA X 100), .int a0, .int a1, .int a2, .int a3, .int a4, .int a5] : List Value).toArray below meth c H locs 0 0 (MQ below Qq ([.ref (xsA X 100), .int a0, .int a1, .int a2, .int a3, .int a4, .int a5] : List Value).toArray s 0 0 (xsF X)) (F0 m 23 ls [.int y1]) := by
    intro y1 hf H locs ls hP hD hS hl
    unfold fX11_puts_J23 at hf
    refine lv_istore (lv' := [(7, .int y1), (0, .ref (xsA X 100)), (1, .int a0), (2, .int a1), (3, .int a2), (4, .int a3), (5, .int a4), (6, .int a5)]) hx hb dX11_puts_23 hl (by decide) rfl (fun ls hl => ?_)
    refine lv_iconst (v := (1 : Int32)) hx hb dX11_puts_25 (by decide) ?_
    refine lv_iconst (v := (5 : Int32)) hx hb dX11_puts_26 (by decide) ?_
    refine lv_iload_n hx hb dX11_puts_27 rfl (lv_at hl 2 rfl) ?_
    refine lv_imul hx hb dX11_puts_28 ?_
    refine lv_iadd hx hb dX11_puts_29 ?_
    refine lv_topi (fun x2 ex2 => ?_)
    replace hf := xsLt_use ex2 hf
    refine lv_istore (lv' := [(8, .int x2), (7, .int y1), (0, .ref (xsA X 100)), (1, .int a0), (2, .int a1), (3, .int a2), (4, .int a3), (5, .int a4), (6, .int a5)]) hx hb dX11_puts_30 hl (by decide) rfl (fun ls hl => ?_)
    refine lv_aload_n hx hb dX11_puts_32 rfl (lv_at hl 2 rfl) ?_
    refine xg_X11_13 C hP dX11_puts_33 ?_
    refine lv_iload hx hb dX11_puts_36 (lv_at hl 0 rfl) ?_
    refine lv_iconst (v := (0 : Int32)) hx hb dX11_puts_38 (by decide) ?_
    refine lv_iadd hx hb dX11_puts_39 ?_
    refine lv_iload hx hb dX11_puts_40 (lv_at hl 1 rfl) ?_
    have K31 : ∀ (y3 : Int32) (hf : fX11_puts_J51 mWorld a1 a2 a3 a4 a5 y1 x2 y3 = some out) (H : Heap) (locs : List Loc) (ls : Array Slot), va_P (xsD X) vwCl (wM X mThrown mWorld mImage mDraft mEarlier mRemembered mHasImage mIsLaid mOne mTwo mShare mX mY mD mEventX mEventY mEventD mEvents mCrossingOf mBundle mEventOf mDegree mFrom mTo mCrossings mEdges mMet mUpper mLower mTape mTaped mPoint mEnd mBegin mFaultAt mFive mTold mActs mFar mViews mHullX mHullY mEndX mEndY mHeightUp mHeightLow mMeets mMeetsOf Rw) H → va_D (xsF X) (wM X mThrown mWorld mImage mDraft mEarlier mRemembered mHasImage mIsLaid mOne mTwo mShare mX mY mD mEventX mEventY mEventD mEvents mCrossingOf mBundle mEventOf mDegree mFrom mTo mCrossings mEdges mMet mUpper mLower mTape mTaped mPoint mEnd mBegin mFaultAt mFive mTold mActs mFar mViews mHullX mHullY mEndX mEndY mHeightUp mHeightLow mMeets mMeetsOf Rw) → va_S (xsF X) s.heap H locs → lv_has ls 9 [(0, .ref (xsA X 100)), (2, .int a1), (3, .int a2), (4, .int a3), (5, .int a4), (6, .int a5), (7, .int y1), (8, .int x2)] → W p l e { frames := 0, cells := 0, slots := 0, locals := 0 } s m ([.ref (xsA X 100), .int a0, .int a1, .int a2, .int a3, .int a4, .int a5] : List Value).toArray below meth c H locs 0 0 (MQ below Qq ([.ref (xsA X 100), .int a0, .int a1, .int a2, .int a3, .int a4, .int a5] : List Value).toArray s 0 0 (xsF X)) (F0 m 51 ls [.int y3, .int (x2 + (0 : Int32)), .ref (xsA X 101)]) := by
      intro y3 hf H locs ls hP hD hS hl
      unfold fX11_puts_J51 at hf
      replace hf := xsCk_use hf
      obtain ⟨h4, hf⟩ := hf
      refine xs_mWorld C hP hD hS h4 dX11_puts_51 (fun f5 ef5 H locs hP hD hS => ?_)
      replace hf := xsLt_use ef5 hf
      refine lv_aload_n hx hb dX11_puts_52 rfl (lv_at hl 0 rfl) ?_
      refine xg_X11_13 C hP dX11_puts_53 ?_
      refine lv_iload hx hb dX11_puts_56 (lv_at hl 7 rfl) ?_
      refine lv_iconst (v := (1 : Int32)) hx hb dX11_puts_58 (by decide) ?_
      refine lv_iadd hx hb dX11_puts_59 ?_
      refine lv_iload hx hb dX11_puts_60 (lv_at hl 6 rfl) ?_
      have K27 : ∀ (y6 : Int32) (hf : fX11_puts_J71 a1 a2 a3 a4 a5 y1 x2 f5 y6 = some out) (H : Heap) (locs : List Loc) (ls : Array Slot), va_P (xsD X) vwCl (wM X mThrown f5 mImage mDraft mEarlier mRemembered mHasImage mIsLaid mOne mTwo mShare mX mY mD mEventX mEventY mEventD mEvents mCrossingOf mBundle mEventOf mDegree mFrom mTo mCrossings mEdges mMet mUpper mLower mTape mTaped mPoint mEnd mBegin mFaultAt mFive mTold mActs mFar mViews mHullX mHullY mEndX mEndY mHeightUp mHeightLow mMeets mMeetsOf Rw) H → va_D (xsF X) (wM X mThrown f5 mImage mDraft mEarlier mRemembered mHasImage mIsLaid mOne mTwo mShare mX mY mD mEventX mEventY mEventD mEvents mCrossingOf mBundle mEventOf mDegree mFrom mTo mCrossings mEdges mMet mUpper mLower mTape mTaped mPoint mEnd mBegin mFaultAt mFive mTold mActs mFar mViews mHullX mHullY mEndX mEndY mHeightUp mHeightLow mMeets mMeetsOf Rw) → va_S (xsF X) s.heap H locs → lv_has ls 9 [(0, .ref (xsA X 100)), (2, .int a1), (3, .int a2), (4, .int a3), (5, .int a4), (6, .int a5), (7, .int y1), (8, .int x2)] → W p l e { frames := 0, cells := 0, slots := 0, locals := 0 } s m ([.ref (xsA X 100), .int a0, .int a1, .int a2, .int a3, .int a4, .int a5] : List Value).toArray below meth c H locs 0 0 (MQ below Qq ([.ref (xsA X 100), .int a0, .int a1, .int a2, .int a3, .int a4, .int a5] : List Value).toArray s 0 0 (xsF X)) (F0 m 71 ls [.int y6, .int (x2 + (1 : Int32)), .ref (xsA X 101)]) := by
        intro y6 hf H locs ls hP hD hS hl
        unfold fX11_puts_J71 at hf
        replace hf := xsCk_use hf
        obtain ⟨h7, hf⟩ := hf
        refine xs_mWorld C hP hD hS h7 dX11_puts_71 (fun f8 ef8 H locs hP hD hS => ?_)
        replace hf := xsLt_use ef8 hf
        refine lv_aload_n hx hb dX11_puts_72 rfl (lv_at hl 0 rfl) ?_
        refine xg_X11_13 C hP dX11_puts_73 ?_
        refine lv_iload hx hb dX11_puts_76 (lv_at hl 7 rfl) ?_
        refine lv_iconst (v := (2 : Int32)) hx hb dX11_puts_78 (by decide) ?_
        refine lv_iadd hx hb dX11_puts_79 ?_
        refine lv_iload hx hb dX11_puts_80 (lv_at hl 6 rfl) ?_
        have K23 : ∀ (y9 : Int32) (hf : fX11_puts_J91 a2 a4 a5 y1 x2 f8 y9 = some out) (H : Heap) (locs : List Loc) (ls : Array Slot), va_P (xsD X) vwCl (wM X mThrown f8 mImage mDraft mEarlier mRemembered mHasImage mIsLaid mOne mTwo mShare mX mY mD mEventX mEventY mEventD mEvents mCrossingOf mBundle mEventOf mDegree mFrom mTo mCrossings mEdges mMet mUpper mLower mTape mTaped mPoint mEnd mBegin mFaultAt mFive mTold mActs mFar mViews mHullX mHullY mEndX mEndY mHeightUp mHeightLow mMeets mMeetsOf Rw) H → va_D (xsF X) (wM X mThrown f8 mImage mDraft mEarlier mRemembered mHasImage mIsLaid mOne mTwo mShare mX mY mD mEventX mEventY mEventD mEvents mCrossingOf mBundle mEventOf mDegree mFrom mTo mCrossings mEdges mMet mUpper mLower mTape mTaped mPoint mEnd mBegin mFaultAt mFive mTold mActs mFar mViews mHullX mHullY mEndX mEndY mHeightUp mHeightLow mMeets mMeetsOf Rw) → va_S (xsF X) s.heap H locs → lv_has ls 9 [(0, .ref (xsA X 100)), (3, .int a2), (5, .int a4), (6, .int a5), (7, .int y1), (8, .int x2)] → W p l e { frames := 0, cells := 0, slots := 0, locals := 0 } s m ([.ref (xsA X 100), .int a0, .int a1, .int a2, .int a3, .int a4, .int a5] : List Value).toArray below meth c H locs 0 0 (MQ below Qq ([.ref (xsA X 100), .int a0, .int a1, .int a2, .int a3, .int a4, .int a5] : List Value).toArray s 0 0 (xsF X)) (F0 m 91 ls [.int y9, .int (x2 + (2 : Int32)), .ref (xsA X 101)]) := by
          intro y9 hf H locs ls hP hD hS hl
          unfold fX11_puts_J91 at hf
          replace hf := xsCk_use hf
          obtain ⟨h10, hf⟩ := hf
          refine xs_mWorld C hP hD hS h10 dX11_puts_91 (fun f11 ef11 H locs hP hD hS => ?_)
          replace hf := xsLt_use ef11 hf
          refine lv_aload_n hx hb dX11_puts_92 rfl (lv_at hl 0 rfl) ?_
          refine xg_X11_13 C hP dX11_puts_93 ?_
          refine lv_iload hx hb dX11_puts_96 (lv_at hl 5 rfl) ?_
          refine lv_iconst (v := (3 : Int32)) hx hb dX11_puts_98 (by decide) ?_
          refine lv_iadd hx hb dX11_puts_99 ?_
          refine lv_iload hx hb dX11_puts_100 (lv_at hl 4 rfl) ?_
          have K19 : ∀ (y12 : Int32) (hf : fX11_puts_J111 a5 x2 f11 y12 = some out) (H : Heap) (locs : List Loc) (ls : Array Slot), va_P (xsD X) vwCl (wM X mThrown f11 mImage mDraft mEarlier mRemembered mHasImage mIsLaid mOne mTwo mShare mX mY mD mEventX mEventY mEventD mEvents mCrossingOf mBundle mEventOf mDegree mFrom mTo mCrossings mEdges mMet mUpper mLower mTape mTaped mPoint mEnd mBegin mFaultAt mFive mTold mActs mFar mViews mHullX mHullY mEndX mEndY mHeightUp mHeightLow mMeets mMeetsOf Rw) H → va_D (xsF X) (wM X mThrown f11 mImage mDraft mEarlier mRemembered mHasImage mIsLaid mOne mTwo mShare mX mY mD mEventX mEventY mEventD mEvents mCrossingOf mBundle mEventOf mDegree mFrom mTo mCrossings mEdges mMet mUpper mLower mTape mTaped mPoint mEnd mBegin mFaultAt mFive mTold mActs mFar mViews mHullX mHullY mEndX mEndY mHeightUp mHeightLow mMeets mMeetsOf Rw) → va_S (xsF X) s.heap H locs → lv_has ls 9 [(0, .ref (xsA X 100)), (6, .int a5), (8, .int x2)] → W p l e { frames := 0, cells := 0, slots := 0, locals := 0 } s m ([.ref (xsA X 100), .int a0, .int a1, .int a2, .int a3, .int a4, .int a5] : List Value).toArray below meth c H locs 0 0 (MQ below Qq ([.ref (xsA X 100), .int a0, .int a1, .int a2, .int a3, .int a4, .int a5] : List Value).toArray s 0 0 (xsF X)) (F0 m 111 ls [.int y12, .int (x2 + (3 : Int32)), .ref (xsA X 101)]) := by
            intro y12 hf H locs ls hP hD hS hl
            unfold fX11_puts_J111 at hf
            replace hf := xsCk_use hf
            obtain ⟨h13, hf⟩ := hf
            refine xs_mWorld C hP hD hS h13 dX11_puts_111 (fun f14 ef14 H locs hP hD hS => ?_)
            replace hf := xsLt_use ef14 hf
            refine lv_aload_n hx hb dX11_puts_112 rfl (lv_at hl 0 rfl) ?_
            refine xg_X11_13 C hP dX11_puts_113 ?_
            refine lv_iload hx hb dX11_puts_116 (lv_at hl 2 rfl) ?_
            refine lv_iconst (v := (4 : Int32)) hx hb dX11_puts_118 (by decide) ?_
            refine lv_iadd hx hb dX11_puts_119 ?_
            refine lv_iload hx hb dX11_puts_120 (lv_at hl 1 rfl) ?_
            replace hf := xsCk_use hf
            obtain ⟨h15, hf⟩ := hf
            refine xs_mWorld C hP hD hS h15 dX11_puts_122 (fun f16 ef16 H locs hP hD hS => ?_)
            replace hf := xsLt_use ef16 hf
            refine lv_aload_n hx hb dX11_puts_123 rfl (lv_at hl 0 rfl) ?_
            refine lv_iconst (v := (0 : Int32)) hx hb dX11_puts_124 (by decide) ?_
            refine xp_X11_109 xsB_0 C hP hD hS dX11_puts_125 (fun H locs hP hD hS => ?_)
            have ho := Option.some.inj hf
            subst ho
            rw [hQq]
            exact xs_vret C hr hlk hP hD hS dX11_puts_128
          replace hf := xsBd_use hf
          obtain ⟨v17, hf, hk18⟩ := hf
          refine lv_if_eq (tgt := 110) hx hb dX11_puts_102 (by decide) (fun c20 => ?_) (fun c20 => ?_)
          · replace hf := xsBr_t c20 hf
            refine lv_iload_n hx hb dX11_puts_110 rfl (lv_at hl 1 rfl) ?_
            have ev := Option.some.inj hf
            subst ev
            exact K19 a2 hk18 H locs ls hP hD hS (lv_sub hl [0, 3, 5] rfl)
          · replace hf := xsBr_f c20 hf
            refine lv_iload hx hb dX11_puts_105 (lv_at hl 2 rfl) ?_
            refine lv_goto (tgt := 111) hx hb dX11_puts_107 (by decide) ?_
            have ev := Option.some.inj hf
            subst ev
            exact K19 a4 hk18 H locs ls hP hD hS (lv_sub hl [0, 3, 5] rfl)
        replace hf := xsBd_use hf
        obtain ⟨v21, hf, hk22⟩ := hf
        refine lv_if_eq (tgt := 90) hx hb dX11_puts_82 (by decide) (fun c24 => ?_) (fun c24 => ?_)
        · replace hf := xsBr_t c24 hf
          refine lv_iload_n hx hb dX11_puts_90 rfl (lv_at hl 1 rfl) ?_
          have ev := Option.some.inj hf
          subst ev
          exact K23 a1 hk22 H locs ls hP hD hS (lv_sub hl [0, 2, 4, 5, 6, 7] rfl)
        · replace hf := xsBr_f c24 hf
          refine lv_iload hx hb dX11_puts_85 (lv_at hl 3 rfl) ?_
          refine lv_goto (tgt := 91) hx hb dX11_puts_87 (by decide) ?_
          have ev := Option.some.inj hf
          subst ev
          exact K23 a3 hk22 H locs ls hP hD hS (lv_sub hl [0, 2, 4, 5, 6, 7] rfl)
      replace hf := xsBd_use hf
      obtain ⟨v25, hf, hk26⟩ := hf
      refine lv_if_eq (tgt := 69) hx hb dX11_puts_62 (by decide) (fun c28 => ?_) (fun c28 => ?_)
      · replace hf := xsBr_t c28 hf
        refine lv_iload hx hb dX11_puts_69 (lv_at hl 4 rfl) ?_
        have ev := Option.some.inj hf
        subst ev
        exact K27 a4 hk26 H locs ls hP hD hS (lv_sub hl [0, 1, 2, 3, 4, 5, 6, 7] rfl)
      · replace hf := xsBr_f c28 hf
        refine lv_iload_n hx hb dX11_puts_65 rfl (lv_at hl 2 rfl) ?_
        refine lv_goto (tgt := 71) hx hb dX11_puts_66 (by decide) ?_
        have ev := Option.some.inj hf
        subst ev
        exact K27 a2 hk26 H locs ls hP hD hS (lv_sub hl [0, 1, 2, 3, 4, 5, 6, 7] rfl)
    replace hf := xsBd_use hf
    obtain ⟨v29, hf, hk30⟩ := hf
    refine lv_if_eq (tgt := 49) hx hb dX11_puts_42 (by decide) (fun c32 => ?_) (fun c32 => ?_)
    · replace hf := xsBr_t c32 hf
      refine lv_iload hx hb dX11_puts_49 (lv_at hl 6 rfl) ?_
      have ev := Option.some.inj hf
      subst ev
      exact K31 a3 hk30 H locs ls hP hD hS (lv_sub hl [2, 4, 5, 6, 7, 8, 1, 0] rfl)
    · replace hf := xsBr_f c32 hf
      refine lv_iload_n hx hb dX11_puts_45 rfl (lv_at hl 4 rfl) ?_
      refine lv_goto (tgt := 51) hx hb dX11_puts_46 (by decide) ?_
      have ev := Option.some.inj hf
      subst ev
      exact K31 a1 hk30 H locs ls hP hD hS (lv_sub hl [2, 4, 5, 6, 7, 8, 1, 0] rfl)
  replace hf := xsBd_use hf
  obtain ⟨v33, hf, hk34⟩ := hf
  refine lv_icmp_lt (tgt := 18) hx hb dX11_puts_3 (by decide) (fun c38 => ?_) (fun c38 => ?_)
  · replace hf := xsBr_t c38 hf
    refine lv_iconst (v := (1 : Int32)) hx hb dX11_puts_18 (by decide) ?_
    refine lv_goto (tgt := 23) hx hb dX11_puts_19 (by decide) ?_
    have ev := Option.some.inj hf
    subst ev
    exact K35 (1 : Int32) hk34 H locs ls hP hD hS (lv_sub hl [0, 1, 2, 3, 4, 5, 6] rfl)
  · replace hf := xsBr_f c38 hf
    refine lv_iload_n hx hb dX11_puts_6 rfl (lv_at hl 2 rfl) ?_
    refine lv_iload hx hb dX11_puts_7 (lv_at hl 4 rfl) ?_
    refine lv_icmp_ne (tgt := 22) hx hb dX11_puts_9 (by decide) (fun c37 => ?_) (fun c37 => ?_)
    · replace hf := xsBr_f c37 hf
      refine lv_iconst (v := (0 : Int32)) hx hb dX11_puts_22 (by decide) ?_
      have ev := Option.some.inj hf
      subst ev
      exact K35 (0 : Int32) hk34 H locs ls hP hD hS (lv_sub hl [0, 1, 2, 3, 4, 5, 6] rfl)
    · replace hf := xsBr_t c37 hf
      refine lv_iload_n hx hb dX11_puts_12 rfl (lv_at hl 3 rfl) ?_
      refine lv_iload hx hb dX11_puts_13 (lv_at hl 5 rfl) ?_
      refine lv_icmp_gt (tgt := 22) hx hb dX11_puts_15 (by decide) (fun c36 => ?_) (fun c36 => ?_)
      · replace hf := xsBr_t c36 hf
        refine lv_iconst (v := (0 : Int32)) hx hb dX11_puts_22 (by decide) ?_
        have ev := Option.some.inj hf
        subst ev
        exact K35 (0 : Int32) hk34 H locs ls hP hD hS (lv_sub hl [0, 1, 2, 3, 4, 5, 6] rfl)
      · replace hf := xsBr_f c36 hf
        refine lv_iconst (v := (1 : Int32)) hx hb dX11_puts_18 (by decide) ?_
        refine lv_goto (tgt := 23) hx hb dX11_puts_19 (by decide) ?_
        have ev := Option.some.inj hf
        subst ev
        exact K35 (1 : Int32) hk34 H locs ls hP hD hS (lv_sub hl [0, 1, 2, 3, 4, 5, 6] rfl)
set_option maxRecDepth 100000 in
set_option maxHeartbeats 8000000 in
theorem mX11_copies (l : Launch) {X : xsX} {mThrown mRemembered mHasImage mIsLaid mEvents mCrossings mEdges mTaped mPoint mEnd mBegin mFaultAt mActs : Int32} {mWorld mImage mDraft mEarlier mOne mTwo mShare mCrossingOf mBundle mEventOf mDegree mFrom mTo mMet mTape mFive mTold mFar mViews mHullX mHullY mEndX mEndY mMeets mMeetsOf : Nat → Int32} {mX mY mD mHeightUp mHeightLow : Int64} {mEventX mEventY mEventD mUpper mLower : Nat → Int64} {Rw : va_W} {a1 : Int32} {a3 : Int32} {out : (Nat → Int32)} (hf : fX11_copies mEarlier a1 a3 = some out) : Met l yX11_copies (xsWs yX11_copies cX11_copies 5 none) { frames := 0, cells := 0, slots := 0, locals := 0 } (xsP X (wM X mThrown mWorld mImage mDraft mEarlier mRemembered mHasImage mIsLaid mOne mTwo mShare mX mY mD mEventX mEventY mEventD mEvents mCrossingOf mBundle mEventOf mDegree mFrom mTo mCrossings mEdges mMet mUpper mLower mTape mTaped mPoint mEnd mBegin mFaultAt mFive mTold mActs mFar mViews mHullX mHullY mEndX mEndY mHeightUp mHeightLow mMeets mMeetsOf Rw) [.ref (xsA X 104), .int a1, .ref (xsA X 104), .int a3]) (xsQv X (wM X mThrown mWorld mImage mDraft out mRemembered mHasImage mIsLaid mOne mTwo mShare mX mY mD mEventX mEventY mEventD mEvents mCrossingOf mBundle mEventOf mDegree mFrom mTo mCrossings mEdges mMet mUpper mLower mTape mTaped mPoint mEnd mBegin mFaultAt mFive mTold mActs mFar mViews mHullX mHullY mEndX mEndY mHeightUp mHeightLow mMeets mMeetsOf Rw)) 0 0 (xsF X) := by
  refine xs_meth RX11 (by decide) rfl (Nat.le_of_ble_eq_true rfl) ?_
  intro p e s m below meth c ls H locs C hP hD hS hr hlk hl
  have hx := C.1
  have hb := C.2.1
  have hl : lv_has ls 5 [(0, .ref (xsA X 104)), (1, .int a1), (2, .ref (xsA X 104)), (3, .int a3)] := hl
  obtain ⟨Qq, hQq⟩ : ∃ Qq, Qq = xsQv X (wM X mThrown mWorld mImage mDraft out mRemembered mHasImage mIsLaid mOne mTwo mShare mX mY mD mEventX mEventY mEventD mEvents mCrossingOf mBundle mEventOf mDegree mFrom mTo mCrossings mEdges mMet mUpper mLower mTape mTaped mPoint mEnd mBegin mFaultAt mFive mTold mActs mFar mViews mHullX mHullY mEndX mEndY mHeightUp mHeightLow mMeets mMeetsOf Rw) := ⟨_, rfl⟩
  rw [← hQq]
  unfold fX11_copies at hf
  refine lv_iconst (v := (0 : Int32)) hx hb dX11_copies_0 (by decide) ?_
  refine lv_istore (lv' := [(4, .int (0 : Int32)), (0, .ref (xsA X 104)), (1, .int a1), (2, .ref (xsA X 104)), (3, .int a3)]) hx hb dX11_copies_1 hl (by decide) rfl (fun ls hl => ?_)
  have K3 : ∀ (y4 : Nat → Int32) (hf : fX11_copies_J28 y4 = some out) (H : Heap) (locs : List Loc) (ls : Array Slot), va_P (xsD X) vwCl (wM X mThrown mWorld mImage mDraft y4 mRemembered mHasImage mIsLaid mOne mTwo mShare mX mY mD mEventX mEventY mEventD mEvents mCrossingOf mBundle mEventOf mDegree mFrom mTo mCrossings mEdges mMet mUpper mLower mTape mTaped mPoint mEnd mBegin mFaultAt mFive mTold mActs mFar mViews mHullX mHullY mEndX mEndY mHeightUp mHeightLow mMeets mMeetsOf Rw) H → va_D (xsF X) (wM X mThrown mWorld mImage mDraft y4 mRemembered mHasImage mIsLaid mOne mTwo mShare mX mY mD mEventX mEventY mEventD mEvents mCrossingOf mBundle mEventOf mDegree mFrom mTo mCrossings mEdges mMet mUpper mLower mTape mTaped mPoint mEnd mBegin mFaultAt mFive mTold mActs mFar mViews mHullX mHullY mEndX mEndY mHeightUp mHeightLow mMeets mMeetsOf Rw) → va_S (xsF X) s.heap H locs → lv_has ls 5 [] → W p l e { frames := 0, cells := 0, slots := 0, locals := 0 } s m ([.ref (xsA X 104), .int a1, .ref (xsA X 104), .int a3] : List Value).toArray below meth c H locs 0 0 (MQ below Qq ([.ref (xsA X 104), .int a1, .ref (xsA X 104), .int a3] : List Value).toArray s 0 0 (xsF X)) (F0 m 28 ls []) := by
    intro y4 hf H locs ls hP hD hS hl
    unfold fX11_copies_J28 at hf
    have ho := Option.some.inj hf
    subst ho
    rw [hQq]
    exact xs_vret C hr hlk hP hD hS dX11_copies_28
  replace hf := xsBd_use hf
  obtain ⟨r3, hk30, hf⟩ := hf
  have L3 : ∀ (sg : Int32 × (Nat → Int32)) (rg : (Nat → Int32)), xsWh (fun s3 => fX11_copies_L3 a1 a3 s3.1 s3.2) sg = some rg → (fX11_copies_J28 rg = some out → ∀ (H : Heap) (locs : List Loc) (ls : Array Slot), va_P (xsD X) vwCl (wM X mThrown mWorld mImage mDraft sg.2 mRemembered mHasImage mIsLaid mOne mTwo mShare mX mY mD mEventX mEventY mEventD mEvents mCrossingOf mBundle mEventOf mDegree mFrom mTo mCrossings mEdges mMet mUpper mLower mTape mTaped mPoint mEnd mBegin mFaultAt mFive mTold mActs mFar mViews mHullX mHullY mEndX mEndY mHeightUp mHeightLow mMeets mMeetsOf Rw) H → va_D (xsF X) (wM X mThrown mWorld mImage mDraft sg.2 mRemembered mHasImage mIsLaid mOne mTwo mShare mX mY mD mEventX mEventY mEventD mEvents mCrossingOf mBundle mEventOf mDegree mFrom mTo mCrossings mEdges mMet mUpper mLower mTape mTaped mPoint mEnd mBegin mFaultAt mFive mTold mActs mFar mViews mHullX mHullY mEndX mEndY mHeightUp mHeightLow mMeets mMeetsOf Rw) → va_S (xsF X) s.heap H locs → lv_has ls 5 [(0, .ref (xsA X 104)), (1, .int a1), (2, .ref (xsA X 104)), (3, .int a3), (4, .int sg.1)] → W p l e { frames := 0, cells := 0, slots := 0, locals := 0 } s m ([.ref (xsA X 104), .int a1, .ref (xsA X 104), .int a3] : List Value).toArray below meth c H locs 0 0 (MQ below Qq ([.ref (xsA X 104), .int a1, .ref (xsA X 104), .int a3] : List Value).toArray s 0 0 (xsF X)) (F0 m 3 ls [])) := by
    refine xsWh_ind ?_
    intro sg r3 u3 hf ih3 hx3 hk3 H locs ls hP hD hS hl
    obtain ⟨y1, y2⟩ := sg
    replace hf : fX11_copies_L3 a1 a3 y1 y2 = some u3 := hf
    replace hl : lv_has ls 5 [(0, .ref (xsA X 104)), (1, .int a1), (2, .ref (xsA X 104)), (3, .int a3), (4, .int y1)] := hl
    replace hP : va_P (xsD X) vwCl (wM X mThrown mWorld mImage mDraft y2 mRemembered mHasImage mIsLaid mOne mTwo mShare mX mY mD mEventX mEventY mEventD mEvents mCrossingOf mBundle mEventOf mDegree mFrom mTo mCrossings mEdges mMet mUpper mLower mTape mTaped mPoint mEnd mBegin mFaultAt mFive mTold mActs mFar mViews mHullX mHullY mEndX mEndY mHeightUp mHeightLow mMeets mMeetsOf Rw) H := hP
    replace hD : va_D (xsF X) (wM X mThrown mWorld mImage mDraft y2 mRemembered mHasImage mIsLaid mOne mTwo mShare mX mY mD mEventX mEventY mEventD mEvents mCrossingOf mBundle mEventOf mDegree mFrom mTo mCrossings mEdges mMet mUpper mLower mTape mTaped mPoint mEnd mBegin mFaultAt mFive mTold mActs mFar mViews mHullX mHullY mEndX mEndY mHeightUp mHeightLow mMeets mMeetsOf Rw) := hD
    unfold fX11_copies_L3 at hf
    refine lv_iload hx hb dX11_copies_3 (lv_at hl 4 rfl) ?_
    refine lv_bipush (v := (121 : Int32)) hx hb dX11_copies_5 (by decide) ?_
    refine lv_icmp_ge (tgt := 28) hx hb dX11_copies_7 (by decide) (fun c9 => ?_) (fun c9 => ?_)
    · replace hf := xsBr_t c9 hf
      have ez := hx3 _ (Option.some.inj hf).symm
      subst ez
      exact K3 y2 hk3 H locs ls hP hD hS (lv_sub hl [] rfl)
    · replace hf := xsBr_f c9 hf
      refine lv_aload_n hx hb dX11_copies_10 rfl (lv_at hl 2 rfl) ?_
      refine lv_iload_n hx hb dX11_copies_11 rfl (lv_at hl 3 rfl) ?_
      refine lv_iload hx hb dX11_copies_12 (lv_at hl 4 rfl) ?_
      refine lv_iadd hx hb dX11_copies_14 ?_
      refine lv_aload_n hx hb dX11_copies_15 rfl (lv_at hl 0 rfl) ?_
      refine lv_iload_n hx hb dX11_copies_16 rfl (lv_at hl 1 rfl) ?_
      refine lv_iload hx hb dX11_copies_17 (lv_at hl 4 rfl) ?_
      refine lv_iadd hx hb dX11_copies_19 ?_
      replace hf := xsCk_use hf
      obtain ⟨h5, hf⟩ := hf
      refine xl_mEarlier C hP h5 dX11_copies_20 ?_
      replace hf := xsCk_use hf
      obtain ⟨h6, hf⟩ := hf
      refine xs_mEarlier C hP hD hS h6 dX11_copies_21 (fun f7 ef7 H locs hP hD hS => ?_)
      replace hf := xsLt_use ef7 hf
      obtain ⟨x8, ex8⟩ : ∃ y : Int32, y = y1 + (1 : Int32) := ⟨_, rfl⟩
      replace hf := xsLt_use ex8 hf
      refine lv_iinc (v := x8) (lv' := [(4, .int x8), (0, .ref (xsA X 104)), (1, .int a1), (2, .ref (xsA X 104)), (3, .int a3)]) hx hb dX11_copies_22 hl (k := 4) rfl (by rw [ex8]; rfl) (by decide) rfl (fun ls hl => ?_)
      refine lv_goto (tgt := 3) hx hb dX11_copies_25 (by decide) ?_
      exact ih3 _ (Option.some.inj hf).symm hk3 H locs ls hP hD hS (lv_sub hl [1, 2, 3, 4, 0] rfl)
  exact L3 ((0 : Int32), mEarlier) r3 hk30 hf H locs ls hP hD hS (lv_sub hl [1, 2, 3, 4, 0] rfl)
set_option maxRecDepth 100000 in
set_option maxHeartbeats 8000000 in
theorem mX11_copies_v1 (l : Launch) {X : xsX} {mThrown mRemembered mHasImage mIsLaid mEvents mCrossings mEdges mTaped mPoint mEnd mBegin mFaultAt mActs : Int32} {mWorld mImage mDraft mEarlier mOne mTwo mShare mCrossingOf mBundle mEventOf mDegree mFrom mTo mMet mTape mFive mTold mFar mViews mHullX mHullY mEndX mEndY mMeets mMeetsOf : Nat → Int32} {mX mY mD mHeightUp mHeightLow : Int64} {mEventX mEventY mEventD mUpper mLower : Nat → Int64} {Rw : va_W} {a1 : Int32} {a3 : Int32} {out : (Nat → Int32)} (hf : fX11_copies_v1 mWorld mEarlier a1 a3 = some out) : Met l yX11_copies (xsWs yX11_copies cX11_copies 5 none) { frames := 0, cells := 0, slots := 0, locals := 0 } (xsP X (wM X mThrown mWorld mImage mDraft mEarlier mRemembered mHasImage mIsLaid mOne mTwo mShare mX mY mD mEventX mEventY mEventD mEvents mCrossingOf mBundle mEventOf mDegree mFrom mTo mCrossings mEdges mMet mUpper mLower mTape mTaped mPoint mEnd mBegin mFaultAt mFive mTold mActs mFar mViews mHullX mHullY mEndX mEndY mHeightUp mHeightLow mMeets mMeetsOf Rw) [.ref (xsA X 101), .int a1, .ref (xsA X 104), .int a3]) (xsQv X (wM X mThrown mWorld mImage mDraft out mRemembered mHasImage mIsLaid mOne mTwo mShare mX mY mD mEventX mEventY mEventD mEvents mCrossingOf mBundle mEventOf mDegree mFrom mTo mCrossings mEdges mMet mUpper mLower mTape mTaped mPoint mEnd mBegin mFaultAt mFive mTold mActs mFar mViews mHullX mHullY mEndX mEndY mHeightUp mHeightLow mMeets mMeetsOf Rw)) 0 0 (xsF X) := by
  refine xs_meth RX11 (by decide) rfl (Nat.le_of_ble_eq_true rfl) ?_
  intro p e s m below meth c ls H locs C hP hD hS hr hlk hl
  have hx := C.1
  have hb := C.2.1
  have hl : lv_has ls 5 [(0, .ref (xsA X 101)), (1, .int a1), (2, .ref (xsA X 104)), (3, .int a3)] := hl
  obtain ⟨Qq, hQq⟩ : ∃ Qq, Qq = xsQv X (wM X mThrown mWorld mImage mDraft out mRemembered mHasImage mIsLaid mOne mTwo mShare mX mY mD mEventX mEventY mEventD mEvents mCrossingOf mBundle mEventOf mDegree mFrom mTo mCrossings mEdges mMet mUpper mLower mTape mTaped mPoint mEnd mBegin mFaultAt mFive mTold mActs mFar mViews mHullX mHullY mEndX mEndY mHeightUp mHeightLow mMeets mMeetsOf Rw) := ⟨_, rfl⟩
  rw [← hQq]
  unfold fX11_copies_v1 at hf
  refine lv_iconst (v := (0 : Int32)) hx hb dX11_copies_0 (by decide) ?_
  refine lv_istore (lv' := [(4, .int (0 : Int32)), (0, .ref (xsA X 101)), (1, .int a1), (2, .ref (xsA X 104)), (3, .int a3)]) hx hb dX11_copies_1 hl (by decide) rfl (fun ls hl => ?_)
  have K3 : ∀ (y4 : Nat → Int32) (hf : fX11_copies_v1_J28 y4 = some out) (H : Heap) (locs : List Loc) (ls : Array Slot), va_P (xsD X) vwCl (wM X mThrown mWorld mImage mDraft y4 mRemembered mHasImage mIsLaid mOne mTwo mShare mX mY mD mEventX mEventY mEventD mEvents mCrossingOf mBundle mEventOf mDegree mFrom mTo mCrossings mEdges mMet mUpper mLower mTape mTaped mPoint mEnd mBegin mFaultAt mFive mTold mActs mFar mViews mHullX mHullY mEndX mEndY mHeightUp mHeightLow mMeets mMeetsOf Rw) H → va_D (xsF X) (wM X mThrown mWorld mImage mDraft y4 mRemembered mHasImage mIsLaid mOne mTwo mShare mX mY mD mEventX mEventY mEventD mEvents mCrossingOf mBundle mEventOf mDegree mFrom mTo mCrossings mEdges mMet mUpper mLower mTape mTaped mPoint mEnd mBegin mFaultAt mFive mTold mActs mFar mViews mHullX mHullY mEndX mEndY mHeightUp mHeightLow mMeets mMeetsOf Rw) → va_S (xsF X) s.heap H locs → lv_has ls 5 [] → W p l e { frames := 0, cells := 0, slots := 0, locals := 0 } s m ([.ref (xsA X 101), .int a1, .ref (xsA X 104), .int a3] : List Value).toArray below meth c H locs 0 0 (MQ below Qq ([.ref (xsA X 101), .int a1, .ref (xsA X 104), .int a3] : List Value).toArray s 0 0 (xsF X)) (F0 m 28 ls []) := by
    intro y4 hf H locs ls hP hD hS hl
    unfold fX11_copies_v1_J28 at hf
    have ho := Option.some.inj hf
    subst ho
    rw [hQq]
    exact xs_vret C hr hlk hP hD hS dX11_copies_28
  replace hf := xsBd_use hf
  obtain ⟨r3, hk30, hf⟩ := hf
  have L3 : ∀ (sg : Int32 × (Nat → Int32)) (rg : (Nat → Int32)), xsWh (fun s3 => fX11_copies_v1_L3 mWorld a1 a3 s3.1 s3.2) sg = some rg → (fX11_copies_v1_J28 rg = some out → ∀ (H : Heap) (locs : List Loc) (ls : Array Slot), va_P (xsD X) vwCl (wM X mThrown mWorld mImage mDraft sg.2 mRemembered mHasImage mIsLaid mOne mTwo mShare mX mY mD mEventX mEventY mEventD mEvents mCrossingOf mBundle mEventOf mDegree mFrom mTo mCrossings mEdges mMet mUpper mLower mTape mTaped mPoint mEnd mBegin mFaultAt mFive mTold mActs mFar mViews mHullX mHullY mEndX mEndY mHeightUp mHeightLow mMeets mMeetsOf Rw) H → va_D (xsF X) (wM X mThrown mWorld mImage mDraft sg.2 mRemembered mHasImage mIsLaid mOne mTwo mShare mX mY mD mEventX mEventY mEventD mEvents mCrossingOf mBundle mEventOf mDegree mFrom mTo mCrossings mEdges mMet mUpper mLower mTape mTaped mPoint mEnd mBegin mFaultAt mFive mTold mActs mFar mViews mHullX mHullY mEndX mEndY mHeightUp mHeightLow mMeets mMeetsOf Rw) → va_S (xsF X) s.heap H locs → lv_has ls 5 [(0, .ref (xsA X 101)), (1, .int a1), (2, .ref (xsA X 104)), (3, .int a3), (4, .int sg.1)] → W p l e { frames := 0, cells := 0, slots := 0, locals := 0 } s m ([.ref (xsA X 101), .int a1, .ref (xsA X 104), .int a3] : List Value).toArray below meth c H locs 0 0 (MQ below Qq ([.ref (xsA X 101), .int a1, .ref (xsA X 104), .int a3] : List Value).toArray s 0 0 (xsF X)) (F0 m 3 ls [])) := by
    refine xsWh_ind ?_
    intro sg r3 u3 hf ih3 hx3 hk3 H locs ls hP hD hS hl
    obtain ⟨y1, y2⟩ := sg
    replace hf : fX11_copies_v1_L3 mWorld a1 a3 y1 y2 = some u3 := hf
    replace hl : lv_has ls 5 [(0, .ref (xsA X 101)), (1, .int a1), (2, .ref (xsA X 104)), (3, .int a3), (4, .int y1)] := hl
    replace hP : va_P (xsD X) vwCl (wM X mThrown mWorld mImage mDraft y2 mRemembered mHasImage mIsLaid mOne mTwo mShare mX mY mD mEventX mEventY mEventD mEvents mCrossingOf mBundle mEventOf mDegree mFrom mTo mCrossings mEdges mMet mUpper mLower mTape mTaped mPoint mEnd mBegin mFaultAt mFive mTold mActs mFar mViews mHullX mHullY mEndX mEndY mHeightUp mHeightLow mMeets mMeetsOf Rw) H := hP
    replace hD : va_D (xsF X) (wM X mThrown mWorld mImage mDraft y2 mRemembered mHasImage mIsLaid mOne mTwo mShare mX mY mD mEventX mEventY mEventD mEvents mCrossingOf mBundle mEventOf mDegree mFrom mTo mCrossings mEdges mMet mUpper mLower mTape mTaped mPoint mEnd mBegin mFaultAt mFive mTold mActs mFar mViews mHullX mHullY mEndX mEndY mHeightUp mHeightLow mMeets mMeetsOf Rw) := hD
    unfold fX11_copies_v1_L3 at hf
    refine lv_iload hx hb dX11_copies_3 (lv_at hl 4 rfl) ?_
    refine lv_bipush (v := (121 : Int32)) hx hb dX11_copies_5 (by decide) ?_
    refine lv_icmp_ge (tgt := 28) hx hb dX11_copies_7 (by decide) (fun c9 => ?_) (fun c9 => ?_)
    · replace hf := xsBr_t c9 hf
      have ez := hx3 _ (Option.some.inj hf).symm
      subst ez
      exact K3 y2 hk3 H locs ls hP hD hS (lv_sub hl [] rfl)
    · replace hf := xsBr_f c9 hf
      refine lv_aload_n hx hb dX11_copies_10 rfl (lv_at hl 2 rfl) ?_
      refine lv_iload_n hx hb dX11_copies_11 rfl (lv_at hl 3 rfl) ?_
      refine lv_iload hx hb dX11_copies_12 (lv_at hl 4 rfl) ?_
      refine lv_iadd hx hb dX11_copies_14 ?_
      refine lv_aload_n hx hb dX11_copies_15 rfl (lv_at hl 0 rfl) ?_
      refine lv_iload_n hx hb dX11_copies_16 rfl (lv_at hl 1 rfl) ?_
      refine lv_iload hx hb dX11_copies_17 (lv_at hl 4 rfl) ?_
      refine lv_iadd hx hb dX11_copies_19 ?_
      replace hf := xsCk_use hf
      obtain ⟨h5, hf⟩ := hf
      refine xl_mWorld C hP h5 dX11_copies_20 ?_
      replace hf := xsCk_use hf
      obtain ⟨h6, hf⟩ := hf
      refine xs_mEarlier C hP hD hS h6 dX11_copies_21 (fun f7 ef7 H locs hP hD hS => ?_)
      replace hf := xsLt_use ef7 hf
      obtain ⟨x8, ex8⟩ : ∃ y : Int32, y = y1 + (1 : Int32) := ⟨_, rfl⟩
      replace hf := xsLt_use ex8 hf
      refine lv_iinc (v := x8) (lv' := [(4, .int x8), (0, .ref (xsA X 101)), (1, .int a1), (2, .ref (xsA X 104)), (3, .int a3)]) hx hb dX11_copies_22 hl (k := 4) rfl (by rw [ex8]; rfl) (by decide) rfl (fun ls hl => ?_)
      refine lv_goto (tgt := 3) hx hb dX11_copies_25 (by decide) ?_
      exact ih3 _ (Option.some.inj hf).symm hk3 H locs ls hP hD hS (lv_sub hl [1, 2, 3, 4, 0] rfl)
  exact L3 ((0 : Int32), mEarlier) r3 hk30 hf H locs ls hP hD hS (lv_sub hl [1, 2, 3, 4, 0] rfl)
set_option maxRecDepth 100000 in
set_option maxHeartbeats 8000000 in
theorem mX11_remembers (l : Launch) {X : xsX} {mThrown mRemembered mHasImage mIsLaid mEvents mCrossings mEdges mTaped mPoint mEnd mBegin mFaultAt mActs : Int32} {mWorld mImage mDraft mEarlier mOne mTwo mShare mCrossingOf mBundle mEventOf mDegree mFrom mTo mMet mTape mFive mTold mFar mViews mHullX mHullY mEndX mEndY mMeets mMeetsOf : Nat → Int32} {mX mY mD mHeightUp mHeightLow : Int64} {mEventX mEventY mEventD mUpper mLower : Nat → Int64} {Rw : va_W} {out : (Nat → Int32) × Int32} (hf : fX11_remembers mWorld mEarlier mRemembered = some out) : Met l yX11_remembers (xsWs yX11_remembers cX11_remembers 2 none) { frames := 1, cells := 0, slots := 0, locals := 24 } (xsP X (wM X mThrown mWorld mImage mDraft mEarlier mRemembered mHasImage mIsLaid mOne mTwo mShare mX mY mD mEventX mEventY mEventD mEvents mCrossingOf mBundle mEventOf mDegree mFrom mTo mCrossings mEdges mMet mUpper mLower mTape mTaped mPoint mEnd mBegin mFaultAt mFive mTold mActs mFar mViews mHullX mHullY mEndX mEndY mHeightUp mHeightLow mMeets mMeetsOf Rw) [.ref (xsA X 100)]) (xsQv X (wM X mThrown mWorld mImage mDraft out.1 out.2 mHasImage mIsLaid mOne mTwo mShare mX mY mD mEventX mEventY mEventD mEvents mCrossingOf mBundle mEventOf mDegree mFrom mTo mCrossings mEdges mMet mUpper mLower mTape mTaped mPoint mEnd mBegin mFaultAt mFive mTold mActs mFar mViews mHullX mHullY mEndX mEndY mHeightUp mHeightLow mMeets mMeetsOf Rw)) 0 0 (xsF X) := by
  refine xs_meth RX11 (by decide) rfl (Nat.le_of_ble_eq_true rfl) ?_
  intro p e s m below meth c ls H locs C hP hD hS hr hlk hl
  have hx := C.1
  have hb := C.2.1
  have hl : lv_has ls 2 [(0, .ref (xsA X 100))] := hl
  obtain ⟨Qq, hQq⟩ : ∃ Qq, Qq = xsQv X (wM X mThrown mWorld mImage mDraft out.1 out.2 mHasImage mIsLaid mOne mTwo mShare mX mY mD mEventX mEventY mEventD mEvents mCrossingOf mBundle mEventOf mDegree mFrom mTo mCrossings mEdges mMet mUpper mLower mTape mTaped mPoint mEnd mBegin mFaultAt mFive mTold mActs mFar mViews mHullX mHullY mEndX mEndY mHeightUp mHeightLow mMeets mMeetsOf Rw) := ⟨_, rfl⟩
  rw [← hQq]
  unfold fX11_remembers at hf
  refine lv_aload_n hx hb dX11_remembers_0 rfl (lv_at hl 0 rfl) ?_
  refine xg_X11_113 C hP dX11_remembers_1 ?_
  refine lv_bipush (v := (8 : Int32)) hx hb dX11_remembers_4 (by decide) ?_
  have K8 : ∀ (y1 : Nat → Int32) (y2 : Int32) (hf : fX11_remembers_J54 mWorld y1 y2 = some out) (H : Heap) (locs : List Loc) (ls : Array Slot), va_P (xsD X) vwCl (wM X mThrown mWorld mImage mDraft y1 y2 mHasImage mIsLaid mOne mTwo mShare mX mY mD mEventX mEventY mEventD mEvents mCrossingOf mBundle mEventOf mDegree mFrom mTo mCrossings mEdges mMet mUpper mLower mTape mTaped mPoint mEnd mBegin mFaultAt mFive mTold mActs mFar mViews mHullX mHullY mEndX mEndY mHeightUp mHeightLow mMeets mMeetsOf Rw) H → va_D (xsF X) (wM X mThrown mWorld mImage mDraft y1 y2 mHasImage mIsLaid mOne mTwo mShare mX mY mD mEventX mEventY mEventD mEvents mCrossingOf mBundle mEventOf mDegree mFrom mTo mCrossings mEdges mMet mUpper mLower mTape mTaped mPoint mEnd mBegin mFaultAt mFive mTold mActs mFar mViews mHullX mHullY mEndX mEndY mHeightUp mHeightLow mMeets mMeetsOf Rw) → va_S (xsF X) s.heap H locs → lv_has ls 2 [(0, .ref (xsA X 100))] → W p l e { frames := 1, cells := 0, slots := 0, locals := 24 } s m ([.ref (xsA X 100)] : List Value).toArray below meth c H locs 0 0 (MQ below Qq ([.ref (xsA X 100)] : List Value).toArray s 0 0 (xsF X)) (F0 m 54 ls []) := by
    intro y1 y2 hf H locs ls hP hD hS hl
    unfold fX11_remembers_J54 at hf
    refine lv_aload_n hx hb dX11_remembers_54 rfl (lv_at hl 0 rfl) ?_
    refine xg_X11_13 C hP dX11_remembers_55 ?_
    refine lv_iconst (v := (0 : Int32)) hx hb dX11_remembers_58 (by decide) ?_
    refine lv_aload_n hx hb dX11_remembers_59 rfl (lv_at hl 0 rfl) ?_
    refine xg_X11_23 C hP dX11_remembers_60 ?_
    refine lv_bipush (v := (121 : Int32)) hx hb dX11_remembers_63 (by decide) ?_
    refine lv_aload_n hx hb dX11_remembers_65 rfl (lv_at hl 0 rfl) ?_
    refine xg_X11_113 C hP dX11_remembers_66 ?_
    refine lv_imul hx hb dX11_remembers_69 ?_
    replace hf := xsBd_use hf
    obtain ⟨o3, h4, hf⟩ := hf
    refine xs_callv hS (xs_runS (As := [.ref (xsA X 101), .int (0 : Int32), .ref (xsA X 104), .int ((121 : Int32) * y2)]) C (mX11_copies_v1 l  h4) w_1506 w_1507 w_115 w_1508 hd_X11_copies ⟨rfl, rfl, Nat.le_of_ble_eq_true rfl, Nat.le_of_ble_eq_true rfl, Nat.zero_le _, Nat.zero_le _⟩ hP hD hS hl.1 rfl (Nat.le_of_ble_eq_true rfl) dX11_remembers_70) (fun H locs hP hD hS => ?_)
    refine lv_aload_n hx hb dX11_remembers_73 rfl (lv_at hl 0 rfl) ?_
    refine lv_dup hx hb dX11_remembers_74 rfl ?_
    refine xg_X11_113 C hP dX11_remembers_75 ?_
    refine lv_iconst (v := (1 : Int32)) hx hb dX11_remembers_78 (by decide) ?_
    refine lv_iadd hx hb dX11_remembers_79 ?_
    refine lv_topi (fun x5 ex5 => ?_)
    replace hf := xsLt_use ex5 hf
    refine xp_X11_113 C hP hD hS dX11_remembers_80 (fun H locs hP hD hS => ?_)
    have ho := Option.some.inj hf
    subst ho
    rw [hQq]
    exact xs_vret C hr hlk hP hD hS dX11_remembers_83
  replace hf := xsBd_use hf
  obtain ⟨v6, hf, hk7⟩ := hf
  refine lv_icmp_ne (tgt := 54) hx hb dX11_remembers_6 (by decide) (fun c18 => ?_) (fun c18 => ?_)
  · replace hf := xsBr_f c18 hf
    have ev := Option.some.inj hf
    subst ev
    exact K8 mEarlier mRemembered hk7 H locs ls hP hD hS (lv_sub hl [0] rfl)
  · replace hf := xsBr_t c18 hf
    refine lv_iconst (v := (1 : Int32)) hx hb dX11_remembers_9 (by decide) ?_
    refine lv_istore_n (lv' := [(1, .int (1 : Int32)), (0, .ref (xsA X 100))]) hx hb dX11_remembers_10 rfl hl (by decide) rfl (fun ls hl => ?_)
    have K11 : ∀ (y12 : Nat → Int32) (hf : fX11_remembers_J44 mRemembered y12 = some v6) (H : Heap) (locs : List Loc) (ls : Array Slot), va_P (xsD X) vwCl (wM X mThrown mWorld mImage mDraft y12 mRemembered mHasImage mIsLaid mOne mTwo mShare mX mY mD mEventX mEventY mEventD mEvents mCrossingOf mBundle mEventOf mDegree mFrom mTo mCrossings mEdges mMet mUpper mLower mTape mTaped mPoint mEnd mBegin mFaultAt mFive mTold mActs mFar mViews mHullX mHullY mEndX mEndY mHeightUp mHeightLow mMeets mMeetsOf Rw) H → va_D (xsF X) (wM X mThrown mWorld mImage mDraft y12 mRemembered mHasImage mIsLaid mOne mTwo mShare mX mY mD mEventX mEventY mEventD mEvents mCrossingOf mBundle mEventOf mDegree mFrom mTo mCrossings mEdges mMet mUpper mLower mTape mTaped mPoint mEnd mBegin mFaultAt mFive mTold mActs mFar mViews mHullX mHullY mEndX mEndY mHeightUp mHeightLow mMeets mMeetsOf Rw) → va_S (xsF X) s.heap H locs → lv_has ls 2 [(0, .ref (xsA X 100))] → W p l e { frames := 1, cells := 0, slots := 0, locals := 24 } s m ([.ref (xsA X 100)] : List Value).toArray below meth c H locs 0 0 (MQ below Qq ([.ref (xsA X 100)] : List Value).toArray s 0 0 (xsF X)) (F0 m 44 ls []) := by
      intro y12 hf H locs ls hP hD hS hl
      unfold fX11_remembers_J44 at hf
      refine lv_aload_n hx hb dX11_remembers_44 rfl (lv_at hl 0 rfl) ?_
      refine lv_dup hx hb dX11_remembers_45 rfl ?_
      refine xg_X11_113 C hP dX11_remembers_46 ?_
      refine lv_iconst (v := (1 : Int32)) hx hb dX11_remembers_49 (by decide) ?_
      refine lv_isub hx hb dX11_remembers_50 ?_
      refine lv_topi (fun x13 ex13 => ?_)
      replace hf := xsLt_use ex13 hf
      refine xp_X11_113 C hP hD hS dX11_remembers_51 (fun H locs hP hD hS => ?_)
      have ev := Option.some.inj hf
      subst ev
      exact K8 y12 x13 hk7 H locs ls hP hD hS (lv_sub hl [0] rfl)
    replace hf := xsBd_use hf
    obtain ⟨r11, hk110, hf⟩ := hf
    have L11 : ∀ (sg : Int32 × (Nat → Int32)) (rg : (Nat → Int32)), xsWh (fun s11 => fX11_remembers_L11 s11.1 s11.2) sg = some rg → (fX11_remembers_J44 mRemembered rg = some v6 → ∀ (H : Heap) (locs : List Loc) (ls : Array Slot), va_P (xsD X) vwCl (wM X mThrown mWorld mImage mDraft sg.2 mRemembered mHasImage mIsLaid mOne mTwo mShare mX mY mD mEventX mEventY mEventD mEvents mCrossingOf mBundle mEventOf mDegree mFrom mTo mCrossings mEdges mMet mUpper mLower mTape mTaped mPoint mEnd mBegin mFaultAt mFive mTold mActs mFar mViews mHullX mHullY mEndX mEndY mHeightUp mHeightLow mMeets mMeetsOf Rw) H → va_D (xsF X) (wM X mThrown mWorld mImage mDraft sg.2 mRemembered mHasImage mIsLaid mOne mTwo mShare mX mY mD mEventX mEventY mEventD mEvents mCrossingOf mBundle mEventOf mDegree mFrom mTo mCrossings mEdges mMet mUpper mLower mTape mTaped mPoint mEnd mBegin mFaultAt mFive mTold mActs mFar mViews mHullX mHullY mEndX mEndY mHeightUp mHeightLow mMeets mMeetsOf Rw) → va_S (xsF X) s.heap H locs → lv_has ls 2 [(0, .ref (xsA X 100)), (1, .int sg.1)] → W p l e { frames := 1, cells := 0, slots := 0, locals := 24 } s m ([.ref (xsA X 100)] : List Value).toArray below meth c H locs 0 0 (MQ below Qq ([.ref (xsA X 100)] : List Value).toArray s 0 0 (xsF X)) (F0 m 11 ls [])) := by
      refine xsWh_ind ?_
      intro sg r11 u11 hf ih11 hx11 hk11 H locs ls hP hD hS hl
      obtain ⟨y9, y10⟩ := sg
      replace hf : fX11_remembers_L11 y9 y10 = some u11 := hf
      replace hl : lv_has ls 2 [(0, .ref (xsA X 100)), (1, .int y9)] := hl
      replace hP : va_P (xsD X) vwCl (wM X mThrown mWorld mImage mDraft y10 mRemembered mHasImage mIsLaid mOne mTwo mShare mX mY mD mEventX mEventY mEventD mEvents mCrossingOf mBundle mEventOf mDegree mFrom mTo mCrossings mEdges mMet mUpper mLower mTape mTaped mPoint mEnd mBegin mFaultAt mFive mTold mActs mFar mViews mHullX mHullY mEndX mEndY mHeightUp mHeightLow mMeets mMeetsOf Rw) H := hP
      replace hD : va_D (xsF X) (wM X mThrown mWorld mImage mDraft y10 mRemembered mHasImage mIsLaid mOne mTwo mShare mX mY mD mEventX mEventY mEventD mEvents mCrossingOf mBundle mEventOf mDegree mFrom mTo mCrossings mEdges mMet mUpper mLower mTape mTaped mPoint mEnd mBegin mFaultAt mFive mTold mActs mFar mViews mHullX mHullY mEndX mEndY mHeightUp mHeightLow mMeets mMeetsOf Rw) := hD
      unfold fX11_remembers_L11 at hf
      refine lv_iload_n hx hb dX11_remembers_11 rfl (lv_at hl 1 rfl) ?_
      refine lv_bipush (v := (8 : Int32)) hx hb dX11_remembers_12 (by decide) ?_
      refine lv_icmp_ge (tgt := 44) hx hb dX11_remembers_14 (by decide) (fun c17 => ?_) (fun c17 => ?_)
      · replace hf := xsBr_t c17 hf
        have ez := hx11 _ (Option.some.inj hf).symm
        subst ez
        exact K11 y10 hk11 H locs ls hP hD hS (lv_sub hl [0] rfl)
      · replace hf := xsBr_f c17 hf
        refine lv_aload_n hx hb dX11_remembers_17 rfl (lv_at hl 0 rfl) ?_
        refine xg_X11_23 C hP dX11_remembers_18 ?_
        refine lv_bipush (v := (121 : Int32)) hx hb dX11_remembers_21 (by decide) ?_
        refine lv_iload_n hx hb dX11_remembers_23 rfl (lv_at hl 1 rfl) ?_
        refine lv_imul hx hb dX11_remembers_24 ?_
        refine lv_aload_n hx hb dX11_remembers_25 rfl (lv_at hl 0 rfl) ?_
        refine xg_X11_23 C hP dX11_remembers_26 ?_
        refine lv_bipush (v := (121 : Int32)) hx hb dX11_remembers_29 (by decide) ?_
        refine lv_iload_n hx hb dX11_remembers_31 rfl (lv_at hl 1 rfl) ?_
        refine lv_iconst (v := (1 : Int32)) hx hb dX11_remembers_32 (by decide) ?_
        refine lv_isub hx hb dX11_remembers_33 ?_
        refine lv_imul hx hb dX11_remembers_34 ?_
        replace hf := xsBd_use hf
        obtain ⟨o14, h15, hf⟩ := hf
        refine xs_callv hS (xs_runS (As := [.ref (xsA X 104), .int ((121 : Int32) * y9), .ref (xsA X 104), .int ((121 : Int32) * (y9 - (1 : Int32)))]) C (mX11_copies l  h15) w_1506 w_1507 w_115 w_1508 hd_X11_copies ⟨rfl, rfl, Nat.le_of_ble_eq_true rfl, Nat.le_of_ble_eq_true rfl, Nat.zero_le _, Nat.zero_le _⟩ hP hD hS hl.1 rfl (Nat.le_of_ble_eq_true rfl) dX11_remembers_35) (fun H locs hP hD hS => ?_)
        obtain ⟨x16, ex16⟩ : ∃ y : Int32, y = y9 + (1 : Int32) := ⟨_, rfl⟩
        replace hf := xsLt_use ex16 hf
        refine lv_iinc (v := x16) (lv' := [(1, .int x16), (0, .ref (xsA X 100))]) hx hb dX11_remembers_38 hl (k := 1) rfl (by rw [ex16]; rfl) (by decide) rfl (fun ls hl => ?_)
        refine lv_goto (tgt := 11) hx hb dX11_remembers_41 (by decide) ?_
        exact ih11 _ (Option.some.inj hf).symm hk11 H locs ls hP hD hS (lv_sub hl [1, 0] rfl)
    exact L11 ((1 : Int32), mEarlier) r11 hk110 hf H locs ls hP hD hS (lv_sub hl [1, 0] rfl)
set_option maxRecDepth 100000 in
set_option maxHeartbeats 8000000 in
theorem mX11_copies_v2 (l : Launch) {X : xsX} {mThrown mRemembered mHasImage mIsLaid mEvents mCrossings mEdges mTaped mPoint mEnd mBegin mFaultAt mActs : Int32} {mWorld mImage mDraft mEarlier mOne mTwo mShare mCrossingOf mBundle mEventOf mDegree mFrom mTo mMet mTape mFive mTold mFar mViews mHullX mHullY mEndX mEndY mMeets mMeetsOf : Nat → Int32} {mX mY mD mHeightUp mHeightLow : Int64} {mEventX mEventY mEventD mUpper mLower : Nat → Int64} {Rw : va_W} {a1 : Int32} {a3 : Int32} {out : (Nat → Int32)} (hf : fX11_copies_v2 mWorld mEarlier a1 a3 = some out) : Met l yX11_copies (xsWs yX11_copies cX11_copies 5 none) { frames := 0, cells := 0, slots := 0, locals := 0 } (xsP X (wM X mThrown mWorld mImage mDraft mEarlier mRemembered mHasImage mIsLaid mOne mTwo mShare mX mY mD mEventX mEventY mEventD mEvents mCrossingOf mBundle mEventOf mDegree mFrom mTo mCrossings mEdges mMet mUpper mLower mTape mTaped mPoint mEnd mBegin mFaultAt mFive mTold mActs mFar mViews mHullX mHullY mEndX mEndY mHeightUp mHeightLow mMeets mMeetsOf Rw) [.ref (xsA X 104), .int a1, .ref (xsA X 101), .int a3]) (xsQv X (wM X mThrown out mImage mDraft mEarlier mRemembered mHasImage mIsLaid mOne mTwo mShare mX mY mD mEventX mEventY mEventD mEvents mCrossingOf mBundle mEventOf mDegree mFrom mTo mCrossings mEdges mMet mUpper mLower mTape mTaped mPoint mEnd mBegin mFaultAt mFive mTold mActs mFar mViews mHullX mHullY mEndX mEndY mHeightUp mHeightLow mMeets mMeetsOf Rw)) 0 0 (xsF X) := by
  refine xs_meth RX11 (by decide) rfl (Nat.le_of_ble_eq_true rfl) ?_
  intro p e s m below meth c ls H locs C hP hD hS hr hlk hl
  have hx := C.1
  have hb := C.2.1
  have hl : lv_has ls 5 [(0, .ref (xsA X 104)), (1, .int a1), (2, .ref (xsA X 101)), (3, .int a3)] := hl
  obtain ⟨Qq, hQq⟩ : ∃ Qq, Qq = xsQv X (wM X mThrown out mImage mDraft mEarlier mRemembered mHasImage mIsLaid mOne mTwo mShare mX mY mD mEventX mEventY mEventD mEvents mCrossingOf mBundle mEventOf mDegree mFrom mTo mCrossings mEdges mMet mUpper mLower mTape mTaped mPoint mEnd mBegin mFaultAt mFive mTold mActs mFar mViews mHullX mHullY mEndX mEndY mHeightUp mHeightLow mMeets mMeetsOf Rw) := ⟨_, rfl⟩
  rw [← hQq]
  unfold fX11_copies_v2 at hf
  refine lv_iconst (v := (0 : Int32)) hx hb dX11_copies_0 (by decide) ?_
  refine lv_istore (lv' := [(4, .int (0 : Int32)), (0, .ref (xsA X 104)), (1, .int a1), (2, .ref (xsA X 101)), (3, .int a3)]) hx hb dX11_copies_1 hl (by decide) rfl (fun ls hl => ?_)
  have K3 : ∀ (y4 : Nat → Int32) (hf : fX11_copies_v2_J28 y4 = some out) (H : Heap) (locs : List Loc) (ls : Array Slot), va_P (xsD X) vwCl (wM X mThrown y4 mImage mDraft mEarlier mRemembered mHasImage mIsLaid mOne mTwo mShare mX mY mD mEventX mEventY mEventD mEvents mCrossingOf mBundle mEventOf mDegree mFrom mTo mCrossings mEdges mMet mUpper mLower mTape mTaped mPoint mEnd mBegin mFaultAt mFive mTold mActs mFar mViews mHullX mHullY mEndX mEndY mHeightUp mHeightLow mMeets mMeetsOf Rw) H → va_D (xsF X) (wM X mThrown y4 mImage mDraft mEarlier mRemembered mHasImage mIsLaid mOne mTwo mShare mX mY mD mEventX mEventY mEventD mEvents mCrossingOf mBundle mEventOf mDegree mFrom mTo mCrossings mEdges mMet mUpper mLower mTape mTaped mPoint mEnd mBegin mFaultAt mFive mTold mActs mFar mViews mHullX mHullY mEndX mEndY mHeightUp mHeightLow mMeets mMeetsOf Rw) → va_S (xsF X) s.heap H locs → lv_has ls 5 [] → W p l e { frames := 0, cells := 0, slots := 0, locals := 0 } s m ([.ref (xsA X 104), .int a1, .ref (xsA X 101), .int a3] : List Value).toArray below meth c H locs 0 0 (MQ below Qq ([.ref (xsA X 104), .int a1, .ref (xsA X 101), .int a3] : List Value).toArray s 0 0 (xsF X)) (F0 m 28 ls []) := by
    intro y4 hf H locs ls hP hD hS hl
    unfold fX11_copies_v2_J28 at hf
    have ho := Option.some.inj hf
    subst ho
    rw [hQq]
    exact xs_vret C hr hlk hP hD hS dX11_copies_28
  replace hf := xsBd_use hf
  obtain ⟨r3, hk30, hf⟩ := hf
  have L3 : ∀ (sg : Int32 × (Nat → Int32)) (rg : (Nat → Int32)), xsWh (fun s3 => fX11_copies_v2_L3 mEarlier a1 a3 s3.1 s3.2) sg = some rg → (fX11_copies_v2_J28 rg = some out → ∀ (H : Heap) (locs : List Loc) (ls : Array Slot), va_P (xsD X) vwCl (wM X mThrown sg.2 mImage mDraft mEarlier mRemembered mHasImage mIsLaid mOne mTwo mShare mX mY mD mEventX mEventY mEventD mEvents mCrossingOf mBundle mEventOf mDegree mFrom mTo mCrossings mEdges mMet mUpper mLower mTape mTaped mPoint mEnd mBegin mFaultAt mFive mTold mActs mFar mViews mHullX mHullY mEndX mEndY mHeightUp mHeightLow mMeets mMeetsOf Rw) H → va_D (xsF X) (wM X mThrown sg.2 mImage mDraft mEarlier mRemembered mHasImage mIsLaid mOne mTwo mShare mX mY mD mEventX mEventY mEventD mEvents mCrossingOf mBundle mEventOf mDegree mFrom mTo mCrossings mEdges mMet mUpper mLower mTape mTaped mPoint mEnd mBegin mFaultAt mFive mTold mActs mFar mViews mHullX mHullY mEndX mEndY mHeightUp mHeightLow mMeets mMeetsOf Rw) → va_S (xsF X) s.heap H locs → lv_has ls 5 [(0, .ref (xsA X 104)), (1, .int a1), (2, .ref (xsA X 101)), (3, .int a3), (4, .int sg.1)] → W p l e { frames := 0, cells := 0, slots := 0, locals := 0 } s m ([.ref (xsA X 104), .int a1, .ref (xsA X 101), .int a3] : List Value).toArray below meth c H locs 0 0 (MQ below Qq ([.ref (xsA X 104), .int a1, .ref (xsA X 101), .int a3] : List Value).toArray s 0 0 (xsF X)) (F0 m 3 ls [])) := by
    refine xsWh_ind ?_
    intro sg r3 u3 hf ih3 hx3 hk3 H locs ls hP hD hS hl
    obtain ⟨y1, y2⟩ := sg
    replace hf : fX11_copies_v2_L3 mEarlier a1 a3 y1 y2 = some u3 := hf
    replace hl : lv_has ls 5 [(0, .ref (xsA X 104)), (1, .int a1), (2, .ref (xsA X 101)), (3, .int a3), (4, .int y1)] := hl
    replace hP : va_P (xsD X) vwCl (wM X mThrown y2 mImage mDraft mEarlier mRemembered mHasImage mIsLaid mOne mTwo mShare mX mY mD mEventX mEventY mEventD mEvents mCrossingOf mBundle mEventOf mDegree mFrom mTo mCrossings mEdges mMet mUpper mLower mTape mTaped mPoint mEnd mBegin mFaultAt mFive mTold mActs mFar mViews mHullX mHullY mEndX mEndY mHeightUp mHeightLow mMeets mMeetsOf Rw) H := hP
    replace hD : va_D (xsF X) (wM X mThrown y2 mImage mDraft mEarlier mRemembered mHasImage mIsLaid mOne mTwo mShare mX mY mD mEventX mEventY mEventD mEvents mCrossingOf mBundle mEventOf mDegree mFrom mTo mCrossings mEdges mMet mUpper mLower mTape mTaped mPoint mEnd mBegin mFaultAt mFive mTold mActs mFar mViews mHullX mHullY mEndX mEndY mHeightUp mHeightLow mMeets mMeetsOf Rw) := hD
    unfold fX11_copies_v2_L3 at hf
    refine lv_iload hx hb dX11_copies_3 (lv_at hl 4 rfl) ?_
    refine lv_bipush (v := (121 : Int32)) hx hb dX11_copies_5 (by decide) ?_
    refine lv_icmp_ge (tgt := 28) hx hb dX11_copies_7 (by decide) (fun c9 => ?_) (fun c9 => ?_)
    · replace hf := xsBr_t c9 hf
      have ez := hx3 _ (Option.some.inj hf).symm
      subst ez
      exact K3 y2 hk3 H locs ls hP hD hS (lv_sub hl [] rfl)
    · replace hf := xsBr_f c9 hf
      refine lv_aload_n hx hb dX11_copies_10 rfl (lv_at hl 2 rfl) ?_
      refine lv_iload_n hx hb dX11_copies_11 rfl (lv_at hl 3 rfl) ?_
      refine lv_iload hx hb dX11_copies_12 (lv_at hl 4 rfl) ?_
      refine lv_iadd hx hb dX11_copies_14 ?_
      refine lv_aload_n hx hb dX11_copies_15 rfl (lv_at hl 0 rfl) ?_
      refine lv_iload_n hx hb dX11_copies_16 rfl (lv_at hl 1 rfl) ?_
      refine lv_iload hx hb dX11_copies_17 (lv_at hl 4 rfl) ?_
      refine lv_iadd hx hb dX11_copies_19 ?_
      replace hf := xsCk_use hf
      obtain ⟨h5, hf⟩ := hf
      refine xl_mEarlier C hP h5 dX11_copies_20 ?_
      replace hf := xsCk_use hf
      obtain ⟨h6, hf⟩ := hf
      refine xs_mWorld C hP hD hS h6 dX11_copies_21 (fun f7 ef7 H locs hP hD hS => ?_)
      replace hf := xsLt_use ef7 hf
      obtain ⟨x8, ex8⟩ : ∃ y : Int32, y = y1 + (1 : Int32) := ⟨_, rfl⟩
      replace hf := xsLt_use ex8 hf
      refine lv_iinc (v := x8) (lv' := [(4, .int x8), (0, .ref (xsA X 104)), (1, .int a1), (2, .ref (xsA X 101)), (3, .int a3)]) hx hb dX11_copies_22 hl (k := 4) rfl (by rw [ex8]; rfl) (by decide) rfl (fun ls hl => ?_)
      refine lv_goto (tgt := 3) hx hb dX11_copies_25 (by decide) ?_
      exact ih3 _ (Option.some.inj hf).symm hk3 H locs ls hP hD hS (lv_sub hl [1, 2, 3, 4, 0] rfl)
  exact L3 ((0 : Int32), mWorld) r3 hk30 hf H locs ls hP hD hS (lv_sub hl [1, 2, 3, 4, 0] rfl)
set_option maxRecDepth 100000 in
set_option maxHeartbeats 8000000 in
theorem mX11_undo (l : Launch) {X : xsX} {mThrown mRemembered mHasImage mIsLaid mEvents mCrossings mEdges mTaped mPoint mEnd mBegin mFaultAt mActs : Int32} {mWorld mImage mDraft mEarlier mOne mTwo mShare mCrossingOf mBundle mEventOf mDegree mFrom mTo mMet mTape mFive mTold mFar mViews mHullX mHullY mEndX mEndY mMeets mMeetsOf : Nat → Int32} {mX mY mD mHeightUp mHeightLow : Int64} {mEventX mEventY mEventD mUpper mLower : Nat → Int64} {Rw : va_W} {out : Int32 × Int32 × (Nat → Int32) × Int32 × Int32} (hf : fX11_undo mThrown mWorld mEarlier mRemembered mIsLaid = some out) : Met l yX11_undo (xsWs yX11_undo cX11_undo 1 (some .int)) { frames := 1, cells := 0, slots := 0, locals := 24 } (xsP X (wM X mThrown mWorld mImage mDraft mEarlier mRemembered mHasImage mIsLaid mOne mTwo mShare mX mY mD mEventX mEventY mEventD mEvents mCrossingOf mBundle mEventOf mDegree mFrom mTo mCrossings mEdges mMet mUpper mLower mTape mTaped mPoint mEnd mBegin mFaultAt mFive mTold mActs mFar mViews mHullX mHullY mEndX mEndY mHeightUp mHeightLow mMeets mMeetsOf Rw) [.ref (xsA X 100)]) (xsQi X out.1 (wM X out.2.1 out.2.2.1 mImage mDraft mEarlier out.2.2.2.1 mHasImage out.2.2.2.2 mOne mTwo mShare mX mY mD mEventX mEventY mEventD mEvents mCrossingOf mBundle mEventOf mDegree mFrom mTo mCrossings mEdges mMet mUpper mLower mTape mTaped mPoint mEnd mBegin mFaultAt mFive mTold mActs mFar mViews mHullX mHullY mEndX mEndY mHeightUp mHeightLow mMeets mMeetsOf Rw)) 0 0 (xsF X) := by
  refine xs_meth RX11 (by decide) rfl (Nat.le_of_ble_eq_true rfl) ?_
  intro p e s m below meth c ls H locs C hP hD hS hr hlk hl
  have hx := C.1
  have hb := C.2.1
  have hl : lv_has ls 1 [(0, .ref (xsA X 100))] := hl
  obtain ⟨Qq, hQq⟩ : ∃ Qq, Qq = xsQi X out.1 (wM X out.2.1 out.2.2.1 mImage mDraft mEarlier out.2.2.2.1 mHasImage out.2.2.2.2 mOne mTwo mShare mX mY mD mEventX mEventY mEventD mEvents mCrossingOf mBundle mEventOf mDegree mFrom mTo mCrossings mEdges mMet mUpper mLower mTape mTaped mPoint mEnd mBegin mFaultAt mFive mTold mActs mFar mViews mHullX mHullY mEndX mEndY mHeightUp mHeightLow mMeets mMeetsOf Rw) := ⟨_, rfl⟩
  rw [← hQq]
  unfold fX11_undo at hf
  refine lv_aload_n hx hb dX11_undo_0 rfl (lv_at hl 0 rfl) ?_
  refine lv_iconst (v := (0 : Int32)) hx hb dX11_undo_1 (by decide) ?_
  refine xp_X11_3 C hP hD hS dX11_undo_2 (fun H locs hP hD hS => ?_)
  refine lv_aload_n hx hb dX11_undo_5 rfl (lv_at hl 0 rfl) ?_
  refine lv_aload_n hx hb dX11_undo_6 rfl (lv_at hl 0 rfl) ?_
  refine xg_X11_113 C hP dX11_undo_7 ?_
  have K10 : ∀ (y1 : Int32) (hf : fX11_undo_J18 mWorld mEarlier mRemembered mIsLaid y1 = some out) (H : Heap) (locs : List Loc) (ls : Array Slot), va_P (xsD X) vwCl (wM X (0 : Int32) mWorld mImage mDraft mEarlier mRemembered mHasImage mIsLaid mOne mTwo mShare mX mY mD mEventX mEventY mEventD mEvents mCrossingOf mBundle mEventOf mDegree mFrom mTo mCrossings mEdges mMet mUpper mLower mTape mTaped mPoint mEnd mBegin mFaultAt mFive mTold mActs mFar mViews mHullX mHullY mEndX mEndY mHeightUp mHeightLow mMeets mMeetsOf Rw) H → va_D (xsF X) (wM X (0 : Int32) mWorld mImage mDraft mEarlier mRemembered mHasImage mIsLaid mOne mTwo mShare mX mY mD mEventX mEventY mEventD mEvents mCrossingOf mBundle mEventOf mDegree mFrom mTo mCrossings mEdges mMet mUpper mLower mTape mTaped mPoint mEnd mBegin mFaultAt mFive mTold mActs mFar mViews mHullX mHullY mEndX mEndY mHeightUp mHeightLow mMeets mMeetsOf Rw) → va_S (xsF X) s.heap H locs → lv_has ls 1 [(0, .ref (xsA X 100))] → W p l e { frames := 1, cells := 0, slots := 0, locals := 24 } s m ([.ref (xsA X 100)] : List Value).toArray below meth c H locs 0 0 (MQ below Qq ([.ref (xsA X 100)] : List Value).toArray s 0 0 (xsF X)) (F0 m 18 ls [.int y1, .ref (xsA X 100)]) := by
    intro y1 hf H locs ls hP hD hS hl
    unfold fX11_undo_J18 at hf
    refine lv_iconst (v := (1 : Int32)) hx hb dX11_undo_18 (by decide) ?_
    replace hf := xsBd_use hf
    obtain ⟨o2, h3, hf⟩ := hf
    refine xs_calli hS (xs_runV (As := [.int y1, .int (1 : Int32)]) C (mX11_throwsIf l  h3) w_1502 w_1504 w_33 w_115 w_1505 hd_X11_throwsIf ⟨rfl, rfl, Nat.le_of_ble_eq_true rfl, Nat.le_of_ble_eq_true rfl, Nat.zero_le _, Nat.zero_le _⟩ hP hD hS lk_X11 rfl hl.1 rfl (Nat.le_of_ble_eq_true rfl) dX11_undo_19) (fun H locs hP hD hS => ?_)
    refine lv_if_eq (tgt := 27) hx hb dX11_undo_22 (by decide) (fun c7 => ?_) (fun c7 => ?_)
    · replace hf := xsBr_t c7 hf
      refine lv_aload_n hx hb dX11_undo_27 rfl (lv_at hl 0 rfl) ?_
      refine lv_dup hx hb dX11_undo_28 rfl ?_
      refine xg_X11_113 C hP dX11_undo_29 ?_
      refine lv_iconst (v := (1 : Int32)) hx hb dX11_undo_32 (by decide) ?_
      refine lv_isub hx hb dX11_undo_33 ?_
      refine lv_topi (fun x4 ex4 => ?_)
      replace hf := xsLt_use ex4 hf
      refine xp_X11_113 C hP hD hS dX11_undo_34 (fun H locs hP hD hS => ?_)
      refine lv_aload_n hx hb dX11_undo_37 rfl (lv_at hl 0 rfl) ?_
      refine xg_X11_23 C hP dX11_undo_38 ?_
      refine lv_bipush (v := (121 : Int32)) hx hb dX11_undo_41 (by decide) ?_
      refine lv_aload_n hx hb dX11_undo_43 rfl (lv_at hl 0 rfl) ?_
      refine xg_X11_113 C hP dX11_undo_44 ?_
      refine lv_imul hx hb dX11_undo_47 ?_
      refine lv_aload_n hx hb dX11_undo_48 rfl (lv_at hl 0 rfl) ?_
      refine xg_X11_13 C hP dX11_undo_49 ?_
      refine lv_iconst (v := (0 : Int32)) hx hb dX11_undo_52 (by decide) ?_
      replace hf := xsBd_use hf
      obtain ⟨o5, h6, hf⟩ := hf
      refine xs_callv hS (xs_runS (As := [.ref (xsA X 104), .int ((121 : Int32) * x4), .ref (xsA X 101), .int (0 : Int32)]) C (mX11_copies_v2 l  h6) w_1506 w_1507 w_115 w_1508 hd_X11_copies ⟨rfl, rfl, Nat.le_of_ble_eq_true rfl, Nat.le_of_ble_eq_true rfl, Nat.zero_le _, Nat.zero_le _⟩ hP hD hS hl.1 rfl (Nat.le_of_ble_eq_true rfl) dX11_undo_53) (fun H locs hP hD hS => ?_)
      refine lv_aload_n hx hb dX11_undo_56 rfl (lv_at hl 0 rfl) ?_
      refine lv_iconst (v := (0 : Int32)) hx hb dX11_undo_57 (by decide) ?_
      refine xp_X11_109 xsB_0 C hP hD hS dX11_undo_58 (fun H locs hP hD hS => ?_)
      refine lv_aload_n hx hb dX11_undo_61 rfl (lv_at hl 0 rfl) ?_
      refine xg_X11_113 C hP dX11_undo_62 ?_
      have ho := Option.some.inj hf
      subst ho
      rw [hQq]
      exact xs_iret C hr hlk hP hD hS dX11_undo_65
    · replace hf := xsBr_f c7 hf
      refine lv_iconst (v := (0 : Int32)) hx hb dX11_undo_25 (by decide) ?_
      have ho := Option.some.inj hf
      subst ho
      rw [hQq]
      exact xs_iret C hr hlk hP hD hS dX11_undo_26
  replace hf := xsBd_use hf
  obtain ⟨v8, hf, hk9⟩ := hf
  refine lv_if_ne (tgt := 17) hx hb dX11_undo_10 (by decide) (fun c11 => ?_) (fun c11 => ?_)
  · replace hf := xsBr_f c11 hf
    refine lv_iconst (v := (0 : Int32)) hx hb dX11_undo_17 (by decide) ?_
    have ev := Option.some.inj hf
    subst ev
    exact K10 (0 : Int32) hk9 H locs ls hP hD hS (lv_sub hl [0] rfl)
  · replace hf := xsBr_t c11 hf
    refine lv_iconst (v := (1 : Int32)) hx hb dX11_undo_13 (by decide) ?_
    refine lv_goto (tgt := 18) hx hb dX11_undo_14 (by decide) ?_
    have ev := Option.some.inj hf
    subst ev
    exact K10 (1 : Int32) hk9 H locs ls hP hD hS (lv_sub hl [0] rfl)
set_option maxRecDepth 100000 in
set_option maxHeartbeats 8000000 in
theorem mX11_copies_v3 (l : Launch) {X : xsX} {mThrown mRemembered mHasImage mIsLaid mEvents mCrossings mEdges mTaped mPoint mEnd mBegin mFaultAt mActs : Int32} {mWorld mImage mDraft mEarlier mOne mTwo mShare mCrossingOf mBundle mEventOf mDegree mFrom mTo mMet mTape mFive mTold mFar mViews mHullX mHullY mEndX mEndY mMeets mMeetsOf : Nat → Int32} {mX mY mD mHeightUp mHeightLow : Int64} {mEventX mEventY mEventD mUpper mLower : Nat → Int64} {Rw : va_W} {a1 : Int32} {a3 : Int32} {out : (Nat → Int32)} (hf : fX11_copies_v3 mWorld mImage a1 a3 = some out) : Met l yX11_copies (xsWs yX11_copies cX11_copies 5 none) { frames := 0, cells := 0, slots := 0, locals := 0 } (xsP X (wM X mThrown mWorld mImage mDraft mEarlier mRemembered mHasImage mIsLaid mOne mTwo mShare mX mY mD mEventX mEventY mEventD mEvents mCrossingOf mBundle mEventOf mDegree mFrom mTo mCrossings mEdges mMet mUpper mLower mTape mTaped mPoint mEnd mBegin mFaultAt mFive mTold mActs mFar mViews mHullX mHullY mEndX mEndY mHeightUp mHeightLow mMeets mMeetsOf Rw) [.ref (xsA X 101), .int a1, .ref (xsA X 102), .int a3]) (xsQv X (wM X mThrown mWorld out mDraft mEarlier mRemembered mHasImage mIsLaid mOne mTwo mShare mX mY mD mEventX mEventY mEventD mEvents mCrossingOf mBundle mEventOf mDegree mFrom mTo mCrossings mEdges mMet mUpper mLower mTape mTaped mPoint mEnd mBegin mFaultAt mFive mTold mActs mFar mViews mHullX mHullY mEndX mEndY mHeightUp mHeightLow mMeets mMeetsOf Rw)) 0 0 (xsF X) := by
  refine xs_meth RX11 (by decide) rfl (Nat.le_of_ble_eq_true rfl) ?_
  intro p e s m below meth c ls H locs C hP hD hS hr hlk hl
  have hx := C.1
  have hb := C.2.1
  have hl : lv_has ls 5 [(0, .ref (xsA X 101)), (1, .int a1), (2, .ref (xsA X 102)), (3, .int a3)] := hl
  obtain ⟨Qq, hQq⟩ : ∃ Qq, Qq = xsQv X (wM X mThrown mWorld out mDraft mEarlier mRemembered mHasImage mIsLaid mOne mTwo mShare mX mY mD mEventX mEventY mEventD mEvents mCrossingOf mBundle mEventOf mDegree mFrom mTo mCrossings mEdges mMet mUpper mLower mTape mTaped mPoint mEnd mBegin mFaultAt mFive mTold mActs mFar mViews mHullX mHullY mEndX mEndY mHeightUp mHeightLow mMeets mMeetsOf Rw) := ⟨_, rfl⟩
  rw [← hQq]
  unfold fX11_copies_v3 at hf
  refine lv_iconst (v := (0 : Int32)) hx hb dX11_copies_0 (by decide) ?_
  refine lv_istore (lv' := [(4, .int (0 : Int32)), (0, .ref (xsA X 101)), (1, .int a1), (2, .ref (xsA X 102)), (3, .int a3)]) hx hb dX11_copies_1 hl (by decide) rfl (fun ls hl => ?_)
  have K3 : ∀ (y4 : Nat → Int32) (hf : fX11_copies_v3_J28 y4 = some out) (H : Heap) (locs : List Loc) (ls : Array Slot), va_P (xsD X) vwCl (wM X mThrown mWorld y4 mDraft mEarlier mRemembered mHasImage mIsLaid mOne mTwo mShare mX mY mD mEventX mEventY mEventD mEvents mCrossingOf mBundle mEventOf mDegree mFrom mTo mCrossings mEdges mMet mUpper mLower mTape mTaped mPoint mEnd mBegin mFaultAt mFive mTold mActs mFar mViews mHullX mHullY mEndX mEndY mHeightUp mHeightLow mMeets mMeetsOf Rw) H → va_D (xsF X) (wM X mThrown mWorld y4 mDraft mEarlier mRemembered mHasImage mIsLaid mOne mTwo mShare mX mY mD mEventX mEventY mEventD mEvents mCrossingOf mBundle mEventOf mDegree mFrom mTo mCrossings mEdges mMet mUpper mLower mTape mTaped mPoint mEnd mBegin mFaultAt mFive mTold mActs mFar mViews mHullX mHullY mEndX mEndY mHeightUp mHeightLow mMeets mMeetsOf Rw) → va_S (xsF X) s.heap H locs → lv_has ls 5 [] → W p l e { frames := 0, cells := 0, slots := 0, locals := 0 } s m ([.ref (xsA X 101), .int a1, .ref (xsA X 102), .int a3] : List Value).toArray below meth c H locs 0 0 (MQ below Qq ([.ref (xsA X 101), .int a1, .ref (xsA X 102), .int a3] : List Value).toArray s 0 0 (xsF X)) (F0 m 28 ls []) := by
    intro y4 hf H locs ls hP hD hS hl
    unfold fX11_copies_v3_J28 at hf
    have ho := Option.some.inj hf
    subst ho
    rw [hQq]
    exact xs_vret C hr hlk hP hD hS dX11_copies_28
  replace hf := xsBd_use hf
  obtain ⟨r3, hk30, hf⟩ := hf
  have L3 : ∀ (sg : Int32 × (Nat → Int32)) (rg : (Nat → Int32)), xsWh (fun s3 => fX11_copies_v3_L3 mWorld a1 a3 s3.1 s3.2) sg = some rg → (fX11_copies_v3_J28 rg = some out → ∀ (H : Heap) (locs : List Loc) (ls : Array Slot), va_P (xsD X) vwCl (wM X mThrown mWorld sg.2 mDraft mEarlier mRemembered mHasImage mIsLaid mOne mTwo mShare mX mY mD mEventX mEventY mEventD mEvents mCrossingOf mBundle mEventOf mDegree mFrom mTo mCrossings mEdges mMet mUpper mLower mTape mTaped mPoint mEnd mBegin mFaultAt mFive mTold mActs mFar mViews mHullX mHullY mEndX mEndY mHeightUp mHeightLow mMeets mMeetsOf Rw) H → va_D (xsF X) (wM X mThrown mWorld sg.2 mDraft mEarlier mRemembered mHasImage mIsLaid mOne mTwo mShare mX mY mD mEventX mEventY mEventD mEvents mCrossingOf mBundle mEventOf mDegree mFrom mTo mCrossings mEdges mMet mUpper mLower mTape mTaped mPoint mEnd mBegin mFaultAt mFive mTold mActs mFar mViews mHullX mHullY mEndX mEndY mHeightUp mHeightLow mMeets mMeetsOf Rw) → va_S (xsF X) s.heap H locs → lv_has ls 5 [(0, .ref (xsA X 101)), (1, .int a1), (2, .ref (xsA X 102)), (3, .int a3), (4, .int sg.1)] → W p l e { frames := 0, cells := 0, slots := 0, locals := 0 } s m ([.ref (xsA X 101), .int a1, .ref (xsA X 102), .int a3] : List Value).toArray below meth c H locs 0 0 (MQ below Qq ([.ref (xsA X 101), .int a1, .ref (xsA X 102), .int a3] : List Value).toArray s 0 0 (xsF X)) (F0 m 3 ls [])) := by
    refine xsWh_ind ?_
    intro sg r3 u3 hf ih3 hx3 hk3 H locs ls hP hD hS hl
    obtain ⟨y1, y2⟩ := sg
    replace hf : fX11_copies_v3_L3 mWorld a1 a3 y1 y2 = some u3 := hf
    replace hl : lv_has ls 5 [(0, .ref (xsA X 101)), (1, .int a1), (2, .ref (xsA X 102)), (3, .int a3), (4, .int y1)] := hl
    replace hP : va_P (xsD X) vwCl (wM X mThrown mWorld y2 mDraft mEarlier mRemembered mHasImage mIsLaid mOne mTwo mShare mX mY mD mEventX mEventY mEventD mEvents mCrossingOf mBundle mEventOf mDegree mFrom mTo mCrossings mEdges mMet mUpper mLower mTape mTaped mPoint mEnd mBegin mFaultAt mFive mTold mActs mFar mViews mHullX mHullY mEndX mEndY mHeightUp mHeightLow mMeets mMeetsOf Rw) H := hP
    replace hD : va_D (xsF X) (wM X mThrown mWorld y2 mDraft mEarlier mRemembered mHasImage mIsLaid mOne mTwo mShare mX mY mD mEventX mEventY mEventD mEvents mCrossingOf mBundle mEventOf mDegree mFrom mTo mCrossings mEdges mMet mUpper mLower mTape mTaped mPoint mEnd mBegin mFaultAt mFive mTold mActs mFar mViews mHullX mHullY mEndX mEndY mHeightUp mHeightLow mMeets mMeetsOf Rw) := hD
    unfold fX11_copies_v3_L3 at hf
    refine lv_iload hx hb dX11_copies_3 (lv_at hl 4 rfl) ?_
    refine lv_bipush (v := (121 : Int32)) hx hb dX11_copies_5 (by decide) ?_
    refine lv_icmp_ge (tgt := 28) hx hb dX11_copies_7 (by decide) (fun c9 => ?_) (fun c9 => ?_)
    · replace hf := xsBr_t c9 hf
      have ez := hx3 _ (Option.some.inj hf).symm
      subst ez
      exact K3 y2 hk3 H locs ls hP hD hS (lv_sub hl [] rfl)
    · replace hf := xsBr_f c9 hf
      refine lv_aload_n hx hb dX11_copies_10 rfl (lv_at hl 2 rfl) ?_
      refine lv_iload_n hx hb dX11_copies_11 rfl (lv_at hl 3 rfl) ?_
      refine lv_iload hx hb dX11_copies_12 (lv_at hl 4 rfl) ?_
      refine lv_iadd hx hb dX11_copies_14 ?_
      refine lv_aload_n hx hb dX11_copies_15 rfl (lv_at hl 0 rfl) ?_
      refine lv_iload_n hx hb dX11_copies_16 rfl (lv_at hl 1 rfl) ?_
      refine lv_iload hx hb dX11_copies_17 (lv_at hl 4 rfl) ?_
      refine lv_iadd hx hb dX11_copies_19 ?_
      replace hf := xsCk_use hf
      obtain ⟨h5, hf⟩ := hf
      refine xl_mWorld C hP h5 dX11_copies_20 ?_
      replace hf := xsCk_use hf
      obtain ⟨h6, hf⟩ := hf
      refine xs_mImage C hP hD hS h6 dX11_copies_21 (fun f7 ef7 H locs hP hD hS => ?_)
      replace hf := xsLt_use ef7 hf
      obtain ⟨x8, ex8⟩ : ∃ y : Int32, y = y1 + (1 : Int32) := ⟨_, rfl⟩
      replace hf := xsLt_use ex8 hf
      refine lv_iinc (v := x8) (lv' := [(4, .int x8), (0, .ref (xsA X 101)), (1, .int a1), (2, .ref (xsA X 102)), (3, .int a3)]) hx hb dX11_copies_22 hl (k := 4) rfl (by rw [ex8]; rfl) (by decide) rfl (fun ls hl => ?_)
      refine lv_goto (tgt := 3) hx hb dX11_copies_25 (by decide) ?_
      exact ih3 _ (Option.some.inj hf).symm hk3 H locs ls hP hD hS (lv_sub hl [1, 2, 3, 4, 0] rfl)
  exact L3 ((0 : Int32), mImage) r3 hk30 hf H locs ls hP hD hS (lv_sub hl [1, 2, 3, 4, 0] rfl)
set_option maxRecDepth 100000 in
set_option maxHeartbeats 8000000 in
theorem mX11_image (l : Launch) {X : xsX} {mThrown mRemembered mHasImage mIsLaid mEvents mCrossings mEdges mTaped mPoint mEnd mBegin mFaultAt mActs : Int32} {mWorld mImage mDraft mEarlier mOne mTwo mShare mCrossingOf mBundle mEventOf mDegree mFrom mTo mMet mTape mFive mTold mFar mViews mHullX mHullY mEndX mEndY mMeets mMeetsOf : Nat → Int32} {mX mY mD mHeightUp mHeightLow : Int64} {mEventX mEventY mEventD mUpper mLower : Nat → Int64} {Rw : va_W} {out : Int32 × (Nat → Int32) × Int32} (hf : fX11_image mThrown mWorld mImage mHasImage = some out) : Met l yX11_image (xsWs yX11_image cX11_image 1 none) { frames := 1, cells := 0, slots := 0, locals := 24 } (xsP X (wM X mThrown mWorld mImage mDraft mEarlier mRemembered mHasImage mIsLaid mOne mTwo mShare mX mY mD mEventX mEventY mEventD mEvents mCrossingOf mBundle mEventOf mDegree mFrom mTo mCrossings mEdges mMet mUpper mLower mTape mTaped mPoint mEnd mBegin mFaultAt mFive mTold mActs mFar mViews mHullX mHullY mEndX mEndY mHeightUp mHeightLow mMeets mMeetsOf Rw) [.ref (xsA X 100)]) (xsQv X (wM X out.1 mWorld out.2.1 mDraft mEarlier mRemembered out.2.2 mIsLaid mOne mTwo mShare mX mY mD mEventX mEventY mEventD mEvents mCrossingOf mBundle mEventOf mDegree mFrom mTo mCrossings mEdges mMet mUpper mLower mTape mTaped mPoint mEnd mBegin mFaultAt mFive mTold mActs mFar mViews mHullX mHullY mEndX mEndY mHeightUp mHeightLow mMeets mMeetsOf Rw)) 0 0 (xsF X) := by
  refine xs_meth RX11 (by decide) rfl (Nat.le_of_ble_eq_true rfl) ?_
  intro p e s m below meth c ls H locs C hP hD hS hr hlk hl
  have hx := C.1
  have hb := C.2.1
  have hl : lv_has ls 1 [(0, .ref (xsA X 100))] := hl
  obtain ⟨Qq, hQq⟩ : ∃ Qq, Qq = xsQv X (wM X out.1 mWorld out.2.1 mDraft mEarlier mRemembered out.2.2 mIsLaid mOne mTwo mShare mX mY mD mEventX mEventY mEventD mEvents mCrossingOf mBundle mEventOf mDegree mFrom mTo mCrossings mEdges mMet mUpper mLower mTape mTaped mPoint mEnd mBegin mFaultAt mFive mTold mActs mFar mViews mHullX mHullY mEndX mEndY mHeightUp mHeightLow mMeets mMeetsOf Rw) := ⟨_, rfl⟩
  rw [← hQq]
  unfold fX11_image at hf
  refine lv_aload_n hx hb dX11_image_0 rfl (lv_at hl 0 rfl) ?_
  refine lv_iconst (v := (0 : Int32)) hx hb dX11_image_1 (by decide) ?_
  refine xp_X11_3 C hP hD hS dX11_image_2 (fun H locs hP hD hS => ?_)
  refine lv_aload_n hx hb dX11_image_5 rfl (lv_at hl 0 rfl) ?_
  refine xg_X11_13 C hP dX11_image_6 ?_
  refine lv_iconst (v := (0 : Int32)) hx hb dX11_image_9 (by decide) ?_
  refine lv_aload_n hx hb dX11_image_10 rfl (lv_at hl 0 rfl) ?_
  refine xg_X11_17 C hP dX11_image_11 ?_
  refine lv_iconst (v := (0 : Int32)) hx hb dX11_image_14 (by decide) ?_
  replace hf := xsBd_use hf
  obtain ⟨o1, h2, hf⟩ := hf
  refine xs_callv hS (xs_runS (As := [.ref (xsA X 101), .int (0 : Int32), .ref (xsA X 102), .int (0 : Int32)]) C (mX11_copies_v3 l  h2) w_1506 w_1507 w_115 w_1508 hd_X11_copies ⟨rfl, rfl, Nat.le_of_ble_eq_true rfl, Nat.le_of_ble_eq_true rfl, Nat.zero_le _, Nat.zero_le _⟩ hP hD hS hl.1 rfl (Nat.le_of_ble_eq_true rfl) dX11_image_15) (fun H locs hP hD hS => ?_)
  refine lv_aload_n hx hb dX11_image_18 rfl (lv_at hl 0 rfl) ?_
  refine lv_iconst (v := (1 : Int32)) hx hb dX11_image_19 (by decide) ?_
  refine xp_X11_124 xsB_1 C hP hD hS dX11_image_20 (fun H locs hP hD hS => ?_)
  have ho := Option.some.inj hf
  subst ho
  rw [hQq]
  exact xs_vret C hr hlk hP hD hS dX11_image_23
set_option maxRecDepth 100000 in
set_option maxHeartbeats 8000000 in
theorem mX11_copies_v4 (l : Launch) {X : xsX} {mThrown mRemembered mHasImage mIsLaid mEvents mCrossings mEdges mTaped mPoint mEnd mBegin mFaultAt mActs : Int32} {mWorld mImage mDraft mEarlier mOne mTwo mShare mCrossingOf mBundle mEventOf mDegree mFrom mTo mMet mTape mFive mTold mFar mViews mHullX mHullY mEndX mEndY mMeets mMeetsOf : Nat → Int32} {mX mY mD mHeightUp mHeightLow : Int64} {mEventX mEventY mEventD mUpper mLower : Nat → Int64} {Rw : va_W} {a1 : Int32} {a3 : Int32} {out : (Nat → Int32)} (hf : fX11_copies_v4 mWorld mImage a1 a3 = some out) : Met l yX11_copies (xsWs yX11_copies cX11_copies 5 none) { frames := 0, cells := 0, slots := 0, locals := 0 } (xsP X (wM X mThrown mWorld mImage mDraft mEarlier mRemembered mHasImage mIsLaid mOne mTwo mShare mX mY mD mEventX mEventY mEventD mEvents mCrossingOf mBundle mEventOf mDegree mFrom mTo mCrossings mEdges mMet mUpper mLower mTape mTaped mPoint mEnd mBegin mFaultAt mFive mTold mActs mFar mViews mHullX mHullY mEndX mEndY mHeightUp mHeightLow mMeets mMeetsOf Rw) [.ref (xsA X 102), .int a1, .ref (xsA X 101), .int a3]) (xsQv X (wM X mThrown out mImage mDraft mEarlier mRemembered mHasImage mIsLaid mOne mTwo mShare mX mY mD mEventX mEventY mEventD mEvents mCrossingOf mBundle mEventOf mDegree mFrom mTo mCrossings mEdges mMet mUpper mLower mTape mTaped mPoint mEnd mBegin mFaultAt mFive mTold mActs mFar mViews mHullX mHullY mEndX mEndY mHeightUp mHeightLow mMeets mMeetsOf Rw)) 0 0 (xsF X) := by
  refine xs_meth RX11 (by decide) rfl (Nat.le_of_ble_eq_true rfl) ?_
  intro p e s m below meth c ls H locs C hP hD hS hr hlk hl
  have hx := C.1
  have hb := C.2.1
  have hl : lv_has ls 5 [(0, .ref (xsA X 102)), (1, .int a1), (2, .ref (xsA X 101)), (3, .int a3)] := hl
  obtain ⟨Qq, hQq⟩ : ∃ Qq, Qq = xsQv X (wM X mThrown out mImage mDraft mEarlier mRemembered mHasImage mIsLaid mOne mTwo mShare mX mY mD mEventX mEventY mEventD mEvents mCrossingOf mBundle mEventOf mDegree mFrom mTo mCrossings mEdges mMet mUpper mLower mTape mTaped mPoint mEnd mBegin mFaultAt mFive mTold mActs mFar mViews mHullX mHullY mEndX mEndY mHeightUp mHeightLow mMeets mMeetsOf Rw) := ⟨_, rfl⟩
  rw [← hQq]
  unfold fX11_copies_v4 at hf
  refine lv_iconst (v := (0 : Int32)) hx hb dX11_copies_0 (by decide) ?_
  refine lv_istore (lv' := [(4, .int (0 : Int32)), (0, .ref (xsA X 102)), (1, .int a1), (2, .ref (xsA X 101)), (3, .int a3)]) hx hb dX11_copies_1 hl (by decide) rfl (fun ls hl => ?_)
  have K3 : ∀ (y4 : Nat → Int32) (hf : fX11_copies_v4_J28 y4 = some out) (H : Heap) (locs : List Loc) (ls : Array Slot), va_P (xsD X) vwCl (wM X mThrown y4 mImage mDraft mEarlier mRemembered mHasImage mIsLaid mOne mTwo mShare mX mY mD mEventX mEventY mEventD mEvents mCrossingOf mBundle mEventOf mDegree mFrom mTo mCrossings mEdges mMet mUpper mLower mTape mTaped mPoint mEnd mBegin mFaultAt mFive mTold mActs mFar mViews mHullX mHullY mEndX mEndY mHeightUp mHeightLow mMeets mMeetsOf Rw) H → va_D (xsF X) (wM X mThrown y4 mImage mDraft mEarlier mRemembered mHasImage mIsLaid mOne mTwo mShare mX mY mD mEventX mEventY mEventD mEvents mCrossingOf mBundle mEventOf mDegree mFrom mTo mCrossings mEdges mMet mUpper mLower mTape mTaped mPoint mEnd mBegin mFaultAt mFive mTold mActs mFar mViews mHullX mHullY mEndX mEndY mHeightUp mHeightLow mMeets mMeetsOf Rw) → va_S (xsF X) s.heap H locs → lv_has ls 5 [] → W p l e { frames := 0, cells := 0, slots := 0, locals := 0 } s m ([.ref (xsA X 102), .int a1, .ref (xsA X 101), .int a3] : List Value).toArray below meth c H locs 0 0 (MQ below Qq ([.ref (xsA X 102), .int a1, .ref (xsA X 101), .int a3] : List Value).toArray s 0 0 (xsF X)) (F0 m 28 ls []) := by
    intro y4 hf H locs ls hP hD hS hl
    unfold fX11_copies_v4_J28 at hf
    have ho := Option.some.inj hf
    subst ho
    rw [hQq]
    exact xs_vret C hr hlk hP hD hS dX11_copies_28
  replace hf := xsBd_use hf
  obtain ⟨r3, hk30, hf⟩ := hf
  have L3 : ∀ (sg : Int32 × (Nat → Int32)) (rg : (Nat → Int32)), xsWh (fun s3 => fX11_copies_v4_L3 mImage a1 a3 s3.1 s3.2) sg = some rg → (fX11_copies_v4_J28 rg = some out → ∀ (H : Heap) (locs : List Loc) (ls : Array Slot), va_P (xsD X) vwCl (wM X mThrown sg.2 mImage mDraft mEarlier mRemembered mHasImage mIsLaid mOne mTwo mShare mX mY mD mEventX mEventY mEventD mEvents mCrossingOf mBundle mEventOf mDegree mFrom mTo mCrossings mEdges mMet mUpper mLower mTape mTaped mPoint mEnd mBegin mFaultAt mFive mTold mActs mFar mViews mHullX mHullY mEndX mEndY mHeightUp mHeightLow mMeets mMeetsOf Rw) H → va_D (xsF X) (wM X mThrown sg.2 mImage mDraft mEarlier mRemembered mHasImage mIsLaid mOne mTwo mShare mX mY mD mEventX mEventY mEventD mEvents mCrossingOf mBundle mEventOf mDegree mFrom mTo mCrossings mEdges mMet mUpper mLower mTape mTaped mPoint mEnd mBegin mFaultAt mFive mTold mActs mFar mViews mHullX mHullY mEndX mEndY mHeightUp mHeightLow mMeets mMeetsOf Rw) → va_S (xsF X) s.heap H locs → lv_has ls 5 [(0, .ref (xsA X 102)), (1, .int a1), (2, .ref (xsA X 101)), (3, .int a3), (4, .int sg.1)] → W p l e { frames := 0, cells := 0, slots := 0, locals := 0 } s m ([.ref (xsA X 102), .int a1, .ref (xsA X 101), .int a3] : List Value).toArray below meth c H locs 0 0 (MQ below Qq ([.ref (xsA X 102), .int a1, .ref (xsA X 101), .int a3] : List Value).toArray s 0 0 (xsF X)) (F0 m 3 ls [])) := by
    refine xsWh_ind ?_
    intro sg r3 u3 hf ih3 hx3 hk3 H locs ls hP hD hS hl
    obtain ⟨y1, y2⟩ := sg
    replace hf : fX11_copies_v4_L3 mImage a1 a3 y1 y2 = some u3 := hf
    replace hl : lv_has ls 5 [(0, .ref (xsA X 102)), (1, .int a1), (2, .ref (xsA X 101)), (3, .int a3), (4, .int y1)] := hl
    replace hP : va_P (xsD X) vwCl (wM X mThrown y2 mImage mDraft mEarlier mRemembered mHasImage mIsLaid mOne mTwo mShare mX mY mD mEventX mEventY mEventD mEvents mCrossingOf mBundle mEventOf mDegree mFrom mTo mCrossings mEdges mMet mUpper mLower mTape mTaped mPoint mEnd mBegin mFaultAt mFive mTold mActs mFar mViews mHullX mHullY mEndX mEndY mHeightUp mHeightLow mMeets mMeetsOf Rw) H := hP
    replace hD : va_D (xsF X) (wM X mThrown y2 mImage mDraft mEarlier mRemembered mHasImage mIsLaid mOne mTwo mShare mX mY mD mEventX mEventY mEventD mEvents mCrossingOf mBundle mEventOf mDegree mFrom mTo mCrossings mEdges mMet mUpper mLower mTape mTaped mPoint mEnd mBegin mFaultAt mFive mTold mActs mFar mViews mHullX mHullY mEndX mEndY mHeightUp mHeightLow mMeets mMeetsOf Rw) := hD
    unfold fX11_copies_v4_L3 at hf
    refine lv_iload hx hb dX11_copies_3 (lv_at hl 4 rfl) ?_
    refine lv_bipush (v := (121 : Int32)) hx hb dX11_copies_5 (by decide) ?_
    refine lv_icmp_ge (tgt := 28) hx hb dX11_copies_7 (by decide) (fun c9 => ?_) (fun c9 => ?_)
    · replace hf := xsBr_t c9 hf
      have ez := hx3 _ (Option.some.inj hf).symm
      subst ez
      exact K3 y2 hk3 H locs ls hP hD hS (lv_sub hl [] rfl)
    · replace hf := xsBr_f c9 hf
      refine lv_aload_n hx hb dX11_copies_10 rfl (lv_at hl 2 rfl) ?_
      refine lv_iload_n hx hb dX11_copies_11 rfl (lv_at hl 3 rfl) ?_
      refine lv_iload hx hb dX11_copies_12 (lv_at hl 4 rfl) ?_
      refine lv_iadd hx hb dX11_copies_14 ?_
      refine lv_aload_n hx hb dX11_copies_15 rfl (lv_at hl 0 rfl) ?_
      refine lv_iload_n hx hb dX11_copies_16 rfl (lv_at hl 1 rfl) ?_
      refine lv_iload hx hb dX11_copies_17 (lv_at hl 4 rfl) ?_
      refine lv_iadd hx hb dX11_copies_19 ?_
      replace hf := xsCk_use hf
      obtain ⟨h5, hf⟩ := hf
      refine xl_mImage C hP h5 dX11_copies_20 ?_
      replace hf := xsCk_use hf
      obtain ⟨h6, hf⟩ := hf
      refine xs_mWorld C hP hD hS h6 dX11_copies_21 (fun f7 ef7 H locs hP hD hS => ?_)
      replace hf := xsLt_use ef7 hf
      obtain ⟨x8, ex8⟩ : ∃ y : Int32, y = y1 + (1 : Int32) := ⟨_, rfl⟩
      replace hf := xsLt_use ex8 hf
      refine lv_iinc (v := x8) (lv' := [(4, .int x8), (0, .ref (xsA X 102)), (1, .int a1), (2, .ref (xsA X 101)), (3, .int a3)]) hx hb dX11_copies_22 hl (k := 4) rfl (by rw [ex8]; rfl) (by decide) rfl (fun ls hl => ?_)
      refine lv_goto (tgt := 3) hx hb dX11_copies_25 (by decide) ?_
      exact ih3 _ (Option.some.inj hf).symm hk3 H locs ls hP hD hS (lv_sub hl [1, 2, 3, 4, 0] rfl)
  exact L3 ((0 : Int32), mWorld) r3 hk30 hf H locs ls hP hD hS (lv_sub hl [1, 2, 3, 4, 0] rfl)
set_option maxRecDepth 100000 in
set_option maxHeartbeats 8000000 in
theorem mX11_back (l : Launch) {X : xsX} {mThrown mRemembered mHasImage mIsLaid mEvents mCrossings mEdges mTaped mPoint mEnd mBegin mFaultAt mActs : Int32} {mWorld mImage mDraft mEarlier mOne mTwo mShare mCrossingOf mBundle mEventOf mDegree mFrom mTo mMet mTape mFive mTold mFar mViews mHullX mHullY mEndX mEndY mMeets mMeetsOf : Nat → Int32} {mX mY mD mHeightUp mHeightLow : Int64} {mEventX mEventY mEventD mUpper mLower : Nat → Int64} {Rw : va_W} {out : Int32 × Int32 × (Nat → Int32) × Int32 × Int32} (hf : fX11_back mThrown mWorld mImage mRemembered mHasImage mIsLaid = some out) : Met l yX11_back (xsWs yX11_back cX11_back 1 (some .boolean)) { frames := 1, cells := 0, slots := 0, locals := 24 } (xsP X (wM X mThrown mWorld mImage mDraft mEarlier mRemembered mHasImage mIsLaid mOne mTwo mShare mX mY mD mEventX mEventY mEventD mEvents mCrossingOf mBundle mEventOf mDegree mFrom mTo mCrossings mEdges mMet mUpper mLower mTape mTaped mPoint mEnd mBegin mFaultAt mFive mTold mActs mFar mViews mHullX mHullY mEndX mEndY mHeightUp mHeightLow mMeets mMeetsOf Rw) [.ref (xsA X 100)]) (xsQi X out.1 (wM X out.2.1 out.2.2.1 mImage mDraft mEarlier out.2.2.2.1 mHasImage out.2.2.2.2 mOne mTwo mShare mX mY mD mEventX mEventY mEventD mEvents mCrossingOf mBundle mEventOf mDegree mFrom mTo mCrossings mEdges mMet mUpper mLower mTape mTaped mPoint mEnd mBegin mFaultAt mFive mTold mActs mFar mViews mHullX mHullY mEndX mEndY mHeightUp mHeightLow mMeets mMeetsOf Rw)) 0 0 (xsF X) := by
  refine xs_meth RX11 (by decide) rfl (Nat.le_of_ble_eq_true rfl) ?_
  intro p e s m below meth c ls H locs C hP hD hS hr hlk hl
  have hx := C.1
  have hb := C.2.1
  have hl : lv_has ls 1 [(0, .ref (xsA X 100))] := hl
  obtain ⟨Qq, hQq⟩ : ∃ Qq, Qq = xsQi X out.1 (wM X out.2.1 out.2.2.1 mImage mDraft mEarlier out.2.2.2.1 mHasImage out.2.2.2.2 mOne mTwo mShare mX mY mD mEventX mEventY mEventD mEvents mCrossingOf mBundle mEventOf mDegree mFrom mTo mCrossings mEdges mMet mUpper mLower mTape mTaped mPoint mEnd mBegin mFaultAt mFive mTold mActs mFar mViews mHullX mHullY mEndX mEndY mHeightUp mHeightLow mMeets mMeetsOf Rw) := ⟨_, rfl⟩
  rw [← hQq]
  unfold fX11_back at hf
  refine lv_aload_n hx hb dX11_back_0 rfl (lv_at hl 0 rfl) ?_
  refine lv_iconst (v := (0 : Int32)) hx hb dX11_back_1 (by decide) ?_
  refine xp_X11_3 C hP hD hS dX11_back_2 (fun H locs hP hD hS => ?_)
  refine lv_aload_n hx hb dX11_back_5 rfl (lv_at hl 0 rfl) ?_
  refine xg_X11_124 C hP dX11_back_6 ?_
  refine lv_if_ne (tgt := 14) hx hb dX11_back_9 (by decide) (fun c3 => ?_) (fun c3 => ?_)
  · replace hf := xsBr_f c3 hf
    refine lv_aload_n hx hb dX11_back_14 rfl (lv_at hl 0 rfl) ?_
    refine xg_X11_17 C hP dX11_back_15 ?_
    refine lv_iconst (v := (0 : Int32)) hx hb dX11_back_18 (by decide) ?_
    refine lv_aload_n hx hb dX11_back_19 rfl (lv_at hl 0 rfl) ?_
    refine xg_X11_13 C hP dX11_back_20 ?_
    refine lv_iconst (v := (0 : Int32)) hx hb dX11_back_23 (by decide) ?_
    replace hf := xsBd_use hf
    obtain ⟨o1, h2, hf⟩ := hf
    refine xs_callv hS (xs_runS (As := [.ref (xsA X 102), .int (0 : Int32), .ref (xsA X 101), .int (0 : Int32)]) C (mX11_copies_v4 l  h2) w_1506 w_1507 w_115 w_1508 hd_X11_copies ⟨rfl, rfl, Nat.le_of_ble_eq_true rfl, Nat.le_of_ble_eq_true rfl, Nat.zero_le _, Nat.zero_le _⟩ hP hD hS hl.1 rfl (Nat.le_of_ble_eq_true rfl) dX11_back_24) (fun H locs hP hD hS => ?_)
    refine lv_aload_n hx hb dX11_back_27 rfl (lv_at hl 0 rfl) ?_
    refine lv_iconst (v := (0 : Int32)) hx hb dX11_back_28 (by decide) ?_
    refine xp_X11_113 C hP hD hS dX11_back_29 (fun H locs hP hD hS => ?_)
    refine lv_aload_n hx hb dX11_back_32 rfl (lv_at hl 0 rfl) ?_
    refine lv_iconst (v := (0 : Int32)) hx hb dX11_back_33 (by decide) ?_
    refine xp_X11_109 xsB_0 C hP hD hS dX11_back_34 (fun H locs hP hD hS => ?_)
    refine lv_iconst (v := (1 : Int32)) hx hb dX11_back_37 (by decide) ?_
    have ho := Option.some.inj hf
    subst ho
    rw [hQq]
    exact xs_zret C hr hlk xsB_1 hP hD hS dX11_back_38
  · replace hf := xsBr_t c3 hf
    refine lv_iconst (v := (0 : Int32)) hx hb dX11_back_12 (by decide) ?_
    have ho := Option.some.inj hf
    subst ho
    rw [hQq]
    exact xs_zret C hr hlk xsB_0 hP hD hS dX11_back_13
set_option maxRecDepth 100000 in
set_option maxHeartbeats 8000000 in
theorem mX11_common (l : Launch) {X : xsX} {w : va_W} {a0 : Int64} {a1 : Int64} {out : Int64} (hf : fX11_common a0 a1 = some out) : Met l yX11_common (xsWs yX11_common cX11_common 10 (some .long)) { frames := 0, cells := 0, slots := 0, locals := 0 } (xsP X (w) [.long a0, .long a1]) (xsQl X out (w)) 0 0 (xsF X) := by
  refine xs_meth RX11 (by decide) rfl (Nat.le_of_ble_eq_true rfl) ?_
  intro p e s m below meth c ls H locs C hP hD hS hr hlk hl
  have hx := C.1
  have hb := C.2.1
  have hl : lv_has ls 10 [(0, .long a0), (2, .long a1)] := hl
  obtain ⟨Qq, hQq⟩ : ∃ Qq, Qq = xsQl X out (w) := ⟨_, rfl⟩
  rw [← hQq]
  unfold fX11_common at hf
  refine lv_lload_n hx hb dX11_common_0 rfl (lv_at hl 0 rfl) ?_
  refine lv_lstore (lv' := [(4, .long a0), (0, .long a0), (2, .long a1)]) hx hb dX11_common_1 hl (by decide) rfl (fun ls hl => ?_)
  refine lv_lload_n hx hb dX11_common_3 rfl (lv_at hl 2 rfl) ?_
  refine lv_lstore (lv' := [(6, .long a1), (4, .long a0), (0, .long a0), (2, .long a1)]) hx hb dX11_common_4 hl (by decide) rfl (fun ls hl => ?_)
  have K3 : ∀ (y4 : Int64) (hf : fX11_common_J31 y4 = some out) (H : Heap) (locs : List Loc) (ls : Array Slot), va_P (xsD X) vwCl (w) H → va_D (xsF X) (w) → va_S (xsF X) s.heap H locs → lv_has ls 10 [(4, .long y4)] → W p l e { frames := 0, cells := 0, slots := 0, locals := 0 } s m ([.long a0, .long a1] : List Value).toArray below meth c H locs 0 0 (MQ below Qq ([.long a0, .long a1] : List Value).toArray s 0 0 (xsF X)) (F0 m 31 ls []) := by
    intro y4 hf H locs ls hP hD hS hl
    unfold fX11_common_J31 at hf
    refine lv_lload hx hb dX11_common_31 (lv_at hl 0 rfl) ?_
    have ho := Option.some.inj hf
    subst ho
    rw [hQq]
    exact xs_lret C hr hlk hP hD hS dX11_common_33
  replace hf := xsBd_use hf
  obtain ⟨r3, hk30, hf⟩ := hf
  have L3 : ∀ (sg : Int64 × Int64) (rg : Int64), xsWh (fun s3 => fX11_common_L6 s3.1 s3.2) sg = some rg → (fX11_common_J31 rg = some out → ∀ (H : Heap) (locs : List Loc) (ls : Array Slot), va_P (xsD X) vwCl (w) H → va_D (xsF X) (w) → va_S (xsF X) s.heap H locs → lv_has ls 10 [(4, .long sg.1), (6, .long sg.2)] → W p l e { frames := 0, cells := 0, slots := 0, locals := 0 } s m ([.long a0, .long a1] : List Value).toArray below meth c H locs 0 0 (MQ below Qq ([.long a0, .long a1] : List Value).toArray s 0 0 (xsF X)) (F0 m 6 ls [])) := by
    refine xsWh_ind ?_
    intro sg r3 u3 hf ih3 hx3 hk3 H locs ls hP hD hS hl
    obtain ⟨y1, y2⟩ := sg
    replace hf : fX11_common_L6 y1 y2 = some u3 := hf
    replace hl : lv_has ls 10 [(4, .long y1), (6, .long y2)] := hl
    replace hP : va_P (xsD X) vwCl (w) H := hP
    replace hD : va_D (xsF X) (w) := hD
    unfold fX11_common_L6 at hf
    refine lv_lload hx hb dX11_common_6 (lv_at hl 1 rfl) ?_
    refine lv_lconst (v := (0 : Int64)) hx hb dX11_common_8 (by decide) ?_
    refine xs_lcmp_eq (tgt := 31) C dX11_common_9 dX11_common_10 (by decide) (fun c7 => ?_) (fun c7 => ?_)
    · replace hf := xsBr_t c7 hf
      have ez := hx3 _ (Option.some.inj hf).symm
      subst ez
      exact K3 y1 hk3 H locs ls hP hD hS (lv_sub hl [0] rfl)
    · replace hf := xsBr_f c7 hf
      refine lv_lload hx hb dX11_common_13 (lv_at hl 0 rfl) ?_
      refine lv_lload hx hb dX11_common_15 (lv_at hl 1 rfl) ?_
      replace hf := xsCk_use hf
      obtain ⟨h5, hf⟩ := hf
      refine lv_lrem hx hb dX11_common_17 h5 ?_
      refine lv_topl (fun x6 ex6 => ?_)
      replace hf := xsLt_use ex6 hf
      refine lv_lstore (lv' := [(8, .long x6), (4, .long y1), (6, .long y2)]) hx hb dX11_common_18 hl (by decide) rfl (fun ls hl => ?_)
      refine lv_lload hx hb dX11_common_20 (lv_at hl 2 rfl) ?_
      refine lv_lstore (lv' := [(4, .long y2), (8, .long x6), (6, .long y2)]) hx hb dX11_common_22 hl (by decide) rfl (fun ls hl => ?_)
      refine lv_lload hx hb dX11_common_24 (lv_at hl 1 rfl) ?_
      refine lv_lstore (lv' := [(6, .long x6), (4, .long y2), (8, .long x6)]) hx hb dX11_common_26 hl (by decide) rfl (fun ls hl => ?_)
      refine lv_goto (tgt := 6) hx hb dX11_common_28 (by decide) ?_
      exact ih3 _ (Option.some.inj hf).symm hk3 H locs ls hP hD hS (lv_sub hl [1, 0] rfl)
  exact L3 (a0, a1) r3 hk30 hf H locs ls hP hD hS (lv_sub hl [1, 0] rfl)
set_option maxRecDepth 100000 in
set_option maxHeartbeats 8000000 in
theorem mX11_sharesPoint (l : Launch) {X : xsX} {mThrown mRemembered mHasImage mIsLaid mEvents mCrossings mEdges mTaped mPoint mEnd mBegin mFaultAt mActs : Int32} {mWorld mImage mDraft mEarlier mOne mTwo mShare mCrossingOf mBundle mEventOf mDegree mFrom mTo mMet mTape mFive mTold mFar mViews mHullX mHullY mEndX mEndY mMeets mMeetsOf : Nat → Int32} {mX mY mD mHeightUp mHeightLow : Int64} {mEventX mEventY mEventD mUpper mLower : Nat → Int64} {Rw : va_W} {a0 : Int64} {a1 : Int64} {a2 : Int64} {out : Int32 × Int64 × Int64 × Int64} (hf : fX11_sharesPoint mX mY mD a0 a1 a2 = some out) : Met l yX11_sharesPoint (xsWs yX11_sharesPoint cX11_sharesPoint 9 (some .int)) { frames := 1, cells := 0, slots := 0, locals := 29 } (xsP X (wM X mThrown mWorld mImage mDraft mEarlier mRemembered mHasImage mIsLaid mOne mTwo mShare mX mY mD mEventX mEventY mEventD mEvents mCrossingOf mBundle mEventOf mDegree mFrom mTo mCrossings mEdges mMet mUpper mLower mTape mTaped mPoint mEnd mBegin mFaultAt mFive mTold mActs mFar mViews mHullX mHullY mEndX mEndY mHeightUp mHeightLow mMeets mMeetsOf Rw) [.ref (xsA X 100), .long a0, .long a1, .long a2]) (xsQi X out.1 (wM X mThrown mWorld mImage mDraft mEarlier mRemembered mHasImage mIsLaid mOne mTwo mShare out.2.1 out.2.2.1 out.2.2.2 mEventX mEventY mEventD mEvents mCrossingOf mBundle mEventOf mDegree mFrom mTo mCrossings mEdges mMet mUpper mLower mTape mTaped mPoint mEnd mBegin mFaultAt mFive mTold mActs mFar mViews mHullX mHullY mEndX mEndY mHeightUp mHeightLow mMeets mMeetsOf Rw)) 0 0 (xsF X) := by
  refine xs_meth RX11 (by decide) rfl (Nat.le_of_ble_eq_true rfl) ?_
  intro p e s m below meth c ls H locs C hP hD hS hr hlk hl
  have hx := C.1
  have hb := C.2.1
  have hl : lv_has ls 9 [(0, .ref (xsA X 100)), (1, .long a0), (3, .long a1), (5, .long a2)] := hl
  obtain ⟨Qq, hQq⟩ : ∃ Qq, Qq = xsQi X out.1 (wM X mThrown mWorld mImage mDraft mEarlier mRemembered mHasImage mIsLaid mOne mTwo mShare out.2.1 out.2.2.1 out.2.2.2 mEventX mEventY mEventD mEvents mCrossingOf mBundle mEventOf mDegree mFrom mTo mCrossings mEdges mMet mUpper mLower mTape mTaped mPoint mEnd mBegin mFaultAt mFive mTold mActs mFar mViews mHullX mHullY mEndX mEndY mHeightUp mHeightLow mMeets mMeetsOf Rw) := ⟨_, rfl⟩
  rw [← hQq]
  unfold fX11_sharesPoint at hf
  refine lv_lload_n hx hb dX11_sharesPoint_0 rfl (lv_at hl 1 rfl) ?_
  refine lv_lconst (v := (0 : Int64)) hx hb dX11_sharesPoint_1 (by decide) ?_
  have K19 : ∀ (y1 : Int64) (hf : fX11_sharesPoint_J12 a0 a1 a2 y1 = some out) (H : Heap) (locs : List Loc) (ls : Array Slot), va_P (xsD X) vwCl (wM X mThrown mWorld mImage mDraft mEarlier mRemembered mHasImage mIsLaid mOne mTwo mShare mX mY mD mEventX mEventY mEventD mEvents mCrossingOf mBundle mEventOf mDegree mFrom mTo mCrossings mEdges mMet mUpper mLower mTape mTaped mPoint mEnd mBegin mFaultAt mFive mTold mActs mFar mViews mHullX mHullY mEndX mEndY mHeightUp mHeightLow mMeets mMeetsOf Rw) H → va_D (xsF X) (wM X mThrown mWorld mImage mDraft mEarlier mRemembered mHasImage mIsLaid mOne mTwo mShare mX mY mD mEventX mEventY mEventD mEvents mCrossingOf mBundle mEventOf mDegree mFrom mTo mCrossings mEdges mMet mUpper mLower mTape mTaped mPoint mEnd mBegin mFaultAt mFive mTold mActs mFar mViews mHullX mHullY mEndX mEndY mHeightUp mHeightLow mMeets mMeetsOf Rw) → va_S (xsF X) s.heap H locs → lv_has ls 9 [(0, .ref (xsA X 100)), (1, .long a0), (3, .long a1), (5, .long a2)] → W p l e { frames := 1, cells := 0, slots := 0, locals := 29 } s m ([.ref (xsA X 100), .long a0, .long a1, .long a2] : List Value).toArray below meth c H locs 0 0 (MQ below Qq ([.ref (xsA X 100), .long a0, .long a1, .long a2] : List Value).toArray s 0 0 (xsF X)) (F0 m 12 ls [.long y1]) := by
    intro y1 hf H locs ls hP hD hS hl
    unfold fX11_sharesPoint_J12 at hf
    refine lv_lload_n hx hb dX11_sharesPoint_12 rfl (lv_at hl 2 rfl) ?_
    refine lv_lconst (v := (0 : Int64)) hx hb dX11_sharesPoint_13 (by decide) ?_
    have K15 : ∀ (y2 : Int64) (hf : fX11_sharesPoint_J24 a0 a1 a2 y1 y2 = some out) (H : Heap) (locs : List Loc) (ls : Array Slot), va_P (xsD X) vwCl (wM X mThrown mWorld mImage mDraft mEarlier mRemembered mHasImage mIsLaid mOne mTwo mShare mX mY mD mEventX mEventY mEventD mEvents mCrossingOf mBundle mEventOf mDegree mFrom mTo mCrossings mEdges mMet mUpper mLower mTape mTaped mPoint mEnd mBegin mFaultAt mFive mTold mActs mFar mViews mHullX mHullY mEndX mEndY mHeightUp mHeightLow mMeets mMeetsOf Rw) H → va_D (xsF X) (wM X mThrown mWorld mImage mDraft mEarlier mRemembered mHasImage mIsLaid mOne mTwo mShare mX mY mD mEventX mEventY mEventD mEvents mCrossingOf mBundle mEventOf mDegree mFrom mTo mCrossings mEdges mMet mUpper mLower mTape mTaped mPoint mEnd mBegin mFaultAt mFive mTold mActs mFar mViews mHullX mHullY mEndX mEndY mHeightUp mHeightLow mMeets mMeetsOf Rw) → va_S (xsF X) s.heap H locs → lv_has ls 9 [(0, .ref (xsA X 100)), (1, .long a0), (3, .long a1), (5, .long a2)] → W p l e { frames := 1, cells := 0, slots := 0, locals := 29 } s m ([.ref (xsA X 100), .long a0, .long a1, .long a2] : List Value).toArray below meth c H locs 0 0 (MQ below Qq ([.ref (xsA X 100), .long a0, .long a1, .long a2] : List Value).toArray s 0 0 (xsF X)) (F0 m 24 ls [.long y2, .long y1]) := by
      intro y2 hf H locs ls hP hD hS hl
      unfold fX11_sharesPoint_J24 at hf
      replace hf := xsBd_use hf
      obtain ⟨o3, h4, hf⟩ := hf
      refine xs_calll hS (xs_runS (As := [.long y1, .long y2]) C (mX11_common l  h4) w_1681 w_1682 w_115 w_1683 hd_X11_common ⟨rfl, rfl, Nat.le_of_ble_eq_true rfl, Nat.le_of_ble_eq_true rfl, Nat.zero_le _, Nat.zero_le _⟩ hP hD hS hl.1 rfl (Nat.le_of_ble_eq_true rfl) dX11_sharesPoint_24) (fun H locs hP hD hS => ?_)
      refine lv_lload hx hb dX11_sharesPoint_27 (lv_at hl 3 rfl) ?_
      replace hf := xsBd_use hf
      obtain ⟨o5, h6, hf⟩ := hf
      refine xs_calll hS (xs_runS (As := [.long o3, .long a2]) C (mX11_common l  h6) w_1681 w_1682 w_115 w_1683 hd_X11_common ⟨rfl, rfl, Nat.le_of_ble_eq_true rfl, Nat.le_of_ble_eq_true rfl, Nat.zero_le _, Nat.zero_le _⟩ hP hD hS hl.1 rfl (Nat.le_of_ble_eq_true rfl) dX11_sharesPoint_29) (fun H locs hP hD hS => ?_)
      refine lv_lstore (lv' := [(7, .long o5), (0, .ref (xsA X 100)), (1, .long a0), (3, .long a1), (5, .long a2)]) hx hb dX11_sharesPoint_32 hl (by decide) rfl (fun ls hl => ?_)
      refine lv_aload_n hx hb dX11_sharesPoint_34 rfl (lv_at hl 1 rfl) ?_
      refine lv_lload_n hx hb dX11_sharesPoint_35 rfl (lv_at hl 2 rfl) ?_
      refine lv_lload hx hb dX11_sharesPoint_36 (lv_at hl 0 rfl) ?_
      replace hf := xsCk_use hf
      obtain ⟨h7, hf⟩ := hf
      refine lv_ldiv hx hb dX11_sharesPoint_38 h7 ?_
      refine lv_topl (fun x8 ex8 => ?_)
      replace hf := xsLt_use ex8 hf
      refine xp_X11_147 C hP hD hS dX11_sharesPoint_39 (fun H locs hP hD hS => ?_)
      refine lv_aload_n hx hb dX11_sharesPoint_42 rfl (lv_at hl 1 rfl) ?_
      refine lv_lload_n hx hb dX11_sharesPoint_43 rfl (lv_at hl 3 rfl) ?_
      refine lv_lload hx hb dX11_sharesPoint_44 (lv_at hl 0 rfl) ?_
      replace hf := xsCk_use hf
      obtain ⟨h9, hf⟩ := hf
      refine lv_ldiv hx hb dX11_sharesPoint_46 h9 ?_
      refine lv_topl (fun x10 ex10 => ?_)
      replace hf := xsLt_use ex10 hf
      refine xp_X11_151 C hP hD hS dX11_sharesPoint_47 (fun H locs hP hD hS => ?_)
      refine lv_aload_n hx hb dX11_sharesPoint_50 rfl (lv_at hl 1 rfl) ?_
      refine lv_lload hx hb dX11_sharesPoint_51 (lv_at hl 4 rfl) ?_
      refine lv_lload hx hb dX11_sharesPoint_53 (lv_at hl 0 rfl) ?_
      replace hf := xsCk_use hf
      obtain ⟨h11, hf⟩ := hf
      refine lv_ldiv hx hb dX11_sharesPoint_55 h11 ?_
      refine lv_topl (fun x12 ex12 => ?_)
      replace hf := xsLt_use ex12 hf
      refine xp_X11_154 C hP hD hS dX11_sharesPoint_56 (fun H locs hP hD hS => ?_)
      refine lv_iconst (v := (1 : Int32)) hx hb dX11_sharesPoint_59 (by decide) ?_
      have ho := Option.some.inj hf
      subst ho
      rw [hQq]
      exact xs_iret C hr hlk hP hD hS dX11_sharesPoint_60
    replace hf := xsBd_use hf
    obtain ⟨v13, hf, hk14⟩ := hf
    refine xs_lcmp_ge (tgt := 23) C dX11_sharesPoint_14 dX11_sharesPoint_15 (by decide) (fun c16 => ?_) (fun c16 => ?_)
    · replace hf := xsBr_t c16 hf
      refine lv_lload_n hx hb dX11_sharesPoint_23 rfl (lv_at hl 2 rfl) ?_
      have ev := Option.some.inj hf
      subst ev
      exact K15 a1 hk14 H locs ls hP hD hS (lv_sub hl [0, 1, 2, 3] rfl)
    · replace hf := xsBr_f c16 hf
      refine lv_lload_n hx hb dX11_sharesPoint_18 rfl (lv_at hl 2 rfl) ?_
      refine lv_lneg hx hb dX11_sharesPoint_19 ?_
      refine lv_goto (tgt := 24) hx hb dX11_sharesPoint_20 (by decide) ?_
      have ev := Option.some.inj hf
      subst ev
      exact K15 (-a1) hk14 H locs ls hP hD hS (lv_sub hl [0, 1, 2, 3] rfl)
  replace hf := xsBd_use hf
  obtain ⟨v17, hf, hk18⟩ := hf
  refine xs_lcmp_ge (tgt := 11) C dX11_sharesPoint_2 dX11_sharesPoint_3 (by decide) (fun c20 => ?_) (fun c20 => ?_)
  · replace hf := xsBr_t c20 hf
    refine lv_lload_n hx hb dX11_sharesPoint_11 rfl (lv_at hl 1 rfl) ?_
    have ev := Option.some.inj hf
    subst ev
    exact K19 a0 hk18 H locs ls hP hD hS (lv_sub hl [0, 1, 2, 3] rfl)
  · replace hf := xsBr_f c20 hf
    refine lv_lload_n hx hb dX11_sharesPoint_6 rfl (lv_at hl 1 rfl) ?_
    refine lv_lneg hx hb dX11_sharesPoint_7 ?_
    refine lv_goto (tgt := 12) hx hb dX11_sharesPoint_8 (by decide) ?_
    have ev := Option.some.inj hf
    subst ev
    exact K19 (-a0) hk18 H locs ls hP hD hS (lv_sub hl [0, 1, 2, 3] rfl)
set_option maxRecDepth 100000 in
set_option maxHeartbeats 8000000 in
theorem mX11_isAhead (l : Launch) {X : xsX} {w : va_W} {a0 : Int32} {a1 : Int32} {a2 : Int32} {a3 : Int32} {out : Int32} (hf : fX11_isAhead a0 a1 a2 a3 = some out) : Met l yX11_isAhead (xsWs yX11_isAhead cX11_isAhead 4 (some .boolean)) { frames := 0, cells := 0, slots := 0, locals := 0 } (xsP X (w) [.int a0, .int a1, .int a2, .int a3]) (xsQi X out (w)) 0 0 (xsF X) := by
  refine xs_meth RX11 (by decide) rfl (Nat.le_of_ble_eq_true rfl) ?_
  intro p e s m below meth c ls H locs C hP hD hS hr hlk hl
  have hx := C.1
  have hb := C.2.1
  have hl : lv_has ls 4 [(0, .int a0), (1, .int a1), (2, .int a2), (3, .int a3)] := hl
  obtain ⟨Qq, hQq⟩ : ∃ Qq, Qq = xsQi X out (w) := ⟨_, rfl⟩
  rw [← hQq]
  unfold fX11_isAhead at hf
  refine lv_iload_n hx hb dX11_isAhead_0 rfl (lv_at hl 0 rfl) ?_
  refine lv_iload_n hx hb dX11_isAhead_1 rfl (lv_at hl 2 rfl) ?_
  refine lv_icmp_lt (tgt := 15) hx hb dX11_isAhead_2 (by decide) (fun c3 => ?_) (fun c3 => ?_)
  · replace hf := xsBr_t c3 hf
    refine lv_iconst (v := (1 : Int32)) hx hb dX11_isAhead_15 (by decide) ?_
    refine lv_goto (tgt := 20) hx hb dX11_isAhead_16 (by decide) ?_
    have ho := Option.some.inj hf
    subst ho
    rw [hQq]
    exact xs_zret C hr hlk xsB_1 hP hD hS dX11_isAhead_20
  · replace hf := xsBr_f c3 hf
    refine lv_iload_n hx hb dX11_isAhead_5 rfl (lv_at hl 0 rfl) ?_
    refine lv_iload_n hx hb dX11_isAhead_6 rfl (lv_at hl 2 rfl) ?_
    refine lv_icmp_ne (tgt := 19) hx hb dX11_isAhead_7 (by decide) (fun c2 => ?_) (fun c2 => ?_)
    · replace hf := xsBr_f c2 hf
      refine lv_iconst (v := (0 : Int32)) hx hb dX11_isAhead_19 (by decide) ?_
      have ho := Option.some.inj hf
      subst ho
      rw [hQq]
      exact xs_zret C hr hlk xsB_0 hP hD hS dX11_isAhead_20
    · replace hf := xsBr_t c2 hf
      refine lv_iload_n hx hb dX11_isAhead_10 rfl (lv_at hl 1 rfl) ?_
      refine lv_iload_n hx hb dX11_isAhead_11 rfl (lv_at hl 3 rfl) ?_
      refine lv_icmp_ge (tgt := 19) hx hb dX11_isAhead_12 (by decide) (fun c1 => ?_) (fun c1 => ?_)
      · replace hf := xsBr_t c1 hf
        refine lv_iconst (v := (0 : Int32)) hx hb dX11_isAhead_19 (by decide) ?_
        have ho := Option.some.inj hf
        subst ho
        rw [hQq]
        exact xs_zret C hr hlk xsB_0 hP hD hS dX11_isAhead_20
      · replace hf := xsBr_f c1 hf
        refine lv_iconst (v := (1 : Int32)) hx hb dX11_isAhead_15 (by decide) ?_
        refine lv_goto (tgt := 20) hx hb dX11_isAhead_16 (by decide) ?_
        have ho := Option.some.inj hf
        subst ho
        rw [hQq]
        exact xs_zret C hr hlk xsB_1 hP hD hS dX11_isAhead_20
set_option maxRecDepth 100000 in
set_option maxHeartbeats 8000000 in
theorem mX11_isMere (l : Launch) {X : xsX} {mThrown mRemembered mHasImage mIsLaid mEvents mCrossings mEdges mTaped mPoint mEnd mBegin mFaultAt mActs : Int32} {mWorld mImage mDraft mEarlier mOne mTwo mShare mCrossingOf mBundle mEventOf mDegree mFrom mTo mMet mTape mFive mTold mFar mViews mHullX mHullY mEndX mEndY mMeets mMeetsOf : Nat → Int32} {mX mY mD mHeightUp mHeightLow : Int64} {mEventX mEventY mEventD mUpper mLower : Nat → Int64} {Rw : va_W} {out : Int32} (hf : fX11_isMere mShare = some out) : Met l yX11_isMere (xsWs yX11_isMere cX11_isMere 1 (some .boolean)) { frames := 0, cells := 0, slots := 0, locals := 0 } (xsP X (wM X mThrown mWorld mImage mDraft mEarlier mRemembered mHasImage mIsLaid mOne mTwo mShare mX mY mD mEventX mEventY mEventD mEvents mCrossingOf mBundle mEventOf mDegree mFrom mTo mCrossings mEdges mMet mUpper mLower mTape mTaped mPoint mEnd mBegin mFaultAt mFive mTold mActs mFar mViews mHullX mHullY mEndX mEndY mHeightUp mHeightLow mMeets mMeetsOf Rw) [.ref (xsA X 107)]) (xsQi X out (wM X mThrown mWorld mImage mDraft mEarlier mRemembered mHasImage mIsLaid mOne mTwo mShare mX mY mD mEventX mEventY mEventD mEvents mCrossingOf mBundle mEventOf mDegree mFrom mTo mCrossings mEdges mMet mUpper mLower mTape mTaped mPoint mEnd mBegin mFaultAt mFive mTold mActs mFar mViews mHullX mHullY mEndX mEndY mHeightUp mHeightLow mMeets mMeetsOf Rw)) 0 0 (xsF X) := by
  refine xs_meth RX11 (by decide) rfl (Nat.le_of_ble_eq_true rfl) ?_
  intro p e s m below meth c ls H locs C hP hD hS hr hlk hl
  have hx := C.1
  have hb := C.2.1
  have hl : lv_has ls 1 [(0, .ref (xsA X 107))] := hl
  obtain ⟨Qq, hQq⟩ : ∃ Qq, Qq = xsQi X out (wM X mThrown mWorld mImage mDraft mEarlier mRemembered mHasImage mIsLaid mOne mTwo mShare mX mY mD mEventX mEventY mEventD mEvents mCrossingOf mBundle mEventOf mDegree mFrom mTo mCrossings mEdges mMet mUpper mLower mTape mTaped mPoint mEnd mBegin mFaultAt mFive mTold mActs mFar mViews mHullX mHullY mEndX mEndY mHeightUp mHeightLow mMeets mMeetsOf Rw) := ⟨_, rfl⟩
  rw [← hQq]
  unfold fX11_isMere at hf
  refine lv_aload_n hx hb dX11_isMere_0 rfl (lv_at hl 0 rfl) ?_
  refine lv_iconst (v := (0 : Int32)) hx hb dX11_isMere_1 (by decide) ?_
  replace hf := xsCk_use hf
  obtain ⟨h1, hf⟩ := hf
  refine xl_mShare C hP h1 dX11_isMere_2 ?_
  refine lv_aload_n hx hb dX11_isMere_3 rfl (lv_at hl 0 rfl) ?_
  refine lv_iconst (v := (2 : Int32)) hx hb dX11_isMere_4 (by decide) ?_
  replace hf := xsCk_use hf
  obtain ⟨h2, hf⟩ := hf
  refine xl_mShare C hP h2 dX11_isMere_5 ?_
  refine lv_icmp_ne (tgt := 22) hx hb dX11_isMere_6 (by decide) (fun c6 => ?_) (fun c6 => ?_)
  · replace hf := xsBr_f c6 hf
    refine lv_iconst (v := (0 : Int32)) hx hb dX11_isMere_22 (by decide) ?_
    have ho := Option.some.inj hf
    subst ho
    rw [hQq]
    exact xs_zret C hr hlk xsB_0 hP hD hS dX11_isMere_23
  · replace hf := xsBr_t c6 hf
    refine lv_aload_n hx hb dX11_isMere_9 rfl (lv_at hl 0 rfl) ?_
    refine lv_iconst (v := (1 : Int32)) hx hb dX11_isMere_10 (by decide) ?_
    replace hf := xsCk_use hf
    obtain ⟨h3, hf⟩ := hf
    refine xl_mShare C hP h3 dX11_isMere_11 ?_
    refine lv_aload_n hx hb dX11_isMere_12 rfl (lv_at hl 0 rfl) ?_
    refine lv_iconst (v := (3 : Int32)) hx hb dX11_isMere_13 (by decide) ?_
    replace hf := xsCk_use hf
    obtain ⟨h4, hf⟩ := hf
    refine xl_mShare C hP h4 dX11_isMere_14 ?_
    refine lv_icmp_ne (tgt := 22) hx hb dX11_isMere_15 (by decide) (fun c5 => ?_) (fun c5 => ?_)
    · replace hf := xsBr_f c5 hf
      refine lv_iconst (v := (0 : Int32)) hx hb dX11_isMere_22 (by decide) ?_
      have ho := Option.some.inj hf
      subst ho
      rw [hQq]
      exact xs_zret C hr hlk xsB_0 hP hD hS dX11_isMere_23
    · replace hf := xsBr_t c5 hf
      refine lv_iconst (v := (1 : Int32)) hx hb dX11_isMere_18 (by decide) ?_
      refine lv_goto (tgt := 23) hx hb dX11_isMere_19 (by decide) ?_
      have ho := Option.some.inj hf
      subst ho
      rw [hQq]
      exact xs_zret C hr hlk xsB_1 hP hD hS dX11_isMere_23
set_option maxRecDepth 100000 in
set_option maxHeartbeats 8000000 in
theorem mX11_sharesLine (l : Launch) {X : xsX} {mThrown mRemembered mHasImage mIsLaid mEvents mCrossings mEdges mTaped mPoint mEnd mBegin mFaultAt mActs : Int32} {mWorld mImage mDraft mEarlier mOne mTwo mShare mCrossingOf mBundle mEventOf mDegree mFrom mTo mMet mTape mFive mTold mFar mViews mHullX mHullY mEndX mEndY mMeets mMeetsOf : Nat → Int32} {mX mY mD mHeightUp mHeightLow : Int64} {mEventX mEventY mEventD mUpper mLower : Nat → Int64} {Rw : va_W} {out : Int32 × (Nat → Int32) × Int64 × Int64 × Int64} (hf : fX11_sharesLine mOne mTwo mShare mX mY mD = some out) : Met l yX11_sharesLine (xsWs yX11_sharesLine cX11_sharesLine 3 (some .int)) { frames := 2, cells := 0, slots := 0, locals := 57 } (xsP X (wM X mThrown mWorld mImage mDraft mEarlier mRemembered mHasImage mIsLaid mOne mTwo mShare mX mY mD mEventX mEventY mEventD mEvents mCrossingOf mBundle mEventOf mDegree mFrom mTo mCrossings mEdges mMet mUpper mLower mTape mTaped mPoint mEnd mBegin mFaultAt mFive mTold mActs mFar mViews mHullX mHullY mEndX mEndY mHeightUp mHeightLow mMeets mMeetsOf Rw) [.ref (xsA X 100)]) (xsQi X out.1 (wM X mThrown mWorld mImage mDraft mEarlier mRemembered mHasImage mIsLaid mOne mTwo out.2.1 out.2.2.1 out.2.2.2.1 out.2.2.2.2 mEventX mEventY mEventD mEvents mCrossingOf mBundle mEventOf mDegree mFrom mTo mCrossings mEdges mMet mUpper mLower mTape mTaped mPoint mEnd mBegin mFaultAt mFive mTold mActs mFar mViews mHullX mHullY mEndX mEndY mHeightUp mHeightLow mMeets mMeetsOf Rw)) 0 0 (xsF X) := by
  refine xs_meth RX11 (by decide) rfl (Nat.le_of_ble_eq_true rfl) ?_
  intro p e s m below meth c ls H locs C hP hD hS hr hlk hl
  have hx := C.1
  have hb := C.2.1
  have hl : lv_has ls 3 [(0, .ref (xsA X 100))] := hl
  obtain ⟨Qq, hQq⟩ : ∃ Qq, Qq = xsQi X out.1 (wM X mThrown mWorld mImage mDraft mEarlier mRemembered mHasImage mIsLaid mOne mTwo out.2.1 out.2.2.1 out.2.2.2.1 out.2.2.2.2 mEventX mEventY mEventD mEvents mCrossingOf mBundle mEventOf mDegree mFrom mTo mCrossings mEdges mMet mUpper mLower mTape mTaped mPoint mEnd mBegin mFaultAt mFive mTold mActs mFar mViews mHullX mHullY mEndX mEndY mHeightUp mHeightLow mMeets mMeetsOf Rw) := ⟨_, rfl⟩
  rw [← hQq]
  unfold fX11_sharesLine at hf
  refine lv_aload_n hx hb dX11_sharesLine_0 rfl (lv_at hl 0 rfl) ?_
  refine xg_X11_26 C hP dX11_sharesLine_1 ?_
  refine lv_iconst (v := (0 : Int32)) hx hb dX11_sharesLine_4 (by decide) ?_
  replace hf := xsCk_use hf
  obtain ⟨h1, hf⟩ := hf
  refine xl_mOne C hP h1 dX11_sharesLine_5 ?_
  refine lv_aload_n hx hb dX11_sharesLine_6 rfl (lv_at hl 0 rfl) ?_
  refine xg_X11_26 C hP dX11_sharesLine_7 ?_
  refine lv_iconst (v := (1 : Int32)) hx hb dX11_sharesLine_10 (by decide) ?_
  replace hf := xsCk_use hf
  obtain ⟨h2, hf⟩ := hf
  refine xl_mOne C hP h2 dX11_sharesLine_11 ?_
  refine lv_aload_n hx hb dX11_sharesLine_12 rfl (lv_at hl 0 rfl) ?_
  refine xg_X11_29 C hP dX11_sharesLine_13 ?_
  refine lv_iconst (v := (0 : Int32)) hx hb dX11_sharesLine_16 (by decide) ?_
  replace hf := xsCk_use hf
  obtain ⟨h3, hf⟩ := hf
  refine xl_mTwo C hP h3 dX11_sharesLine_17 ?_
  refine lv_aload_n hx hb dX11_sharesLine_18 rfl (lv_at hl 0 rfl) ?_
  refine xg_X11_29 C hP dX11_sharesLine_19 ?_
  refine lv_iconst (v := (1 : Int32)) hx hb dX11_sharesLine_22 (by decide) ?_
  replace hf := xsCk_use hf
  obtain ⟨h4, hf⟩ := hf
  refine xl_mTwo C hP h4 dX11_sharesLine_23 ?_
  replace hf := xsBd_use hf
  obtain ⟨o5, h6, hf⟩ := hf
  refine xs_calli hS (xs_runS (As := [.int (mOne (0 : Int32).toNatClampNeg), .int (mOne (1 : Int32).toNatClampNeg), .int (mTwo (0 : Int32).toNatClampNeg), .int (mTwo (1 : Int32).toNatClampNeg)]) C (mX11_isAhead l  h6) w_1688 w_1689 w_115 w_1690 hd_X11_isAhead ⟨rfl, rfl, Nat.le_of_ble_eq_true rfl, Nat.le_of_ble_eq_true rfl, Nat.zero_le _, Nat.zero_le _⟩ hP hD hS hl.1 rfl (Nat.le_of_ble_eq_true rfl) dX11_sharesLine_24) (fun H locs hP hD hS => ?_)
  refine lv_istore_n (lv' := [(1, .int o5), (0, .ref (xsA X 100))]) hx hb dX11_sharesLine_27 rfl hl (by decide) rfl (fun ls hl => ?_)
  refine lv_aload_n hx hb dX11_sharesLine_28 rfl (lv_at hl 1 rfl) ?_
  refine xg_X11_32 C hP dX11_sharesLine_29 ?_
  refine lv_iconst (v := (0 : Int32)) hx hb dX11_sharesLine_32 (by decide) ?_
  refine lv_iload_n hx hb dX11_sharesLine_33 rfl (lv_at hl 0 rfl) ?_
  have K59 : ∀ (y7 : Int32) (hf : fX11_sharesLine_J52 mOne mTwo mShare mX mY mD o5 y7 = some out) (H : Heap) (locs : List Loc) (ls : Array Slot), va_P (xsD X) vwCl (wM X mThrown mWorld mImage mDraft mEarlier mRemembered mHasImage mIsLaid mOne mTwo mShare mX mY mD mEventX mEventY mEventD mEvents mCrossingOf mBundle mEventOf mDegree mFrom mTo mCrossings mEdges mMet mUpper mLower mTape mTaped mPoint mEnd mBegin mFaultAt mFive mTold mActs mFar mViews mHullX mHullY mEndX mEndY mHeightUp mHeightLow mMeets mMeetsOf Rw) H → va_D (xsF X) (wM X mThrown mWorld mImage mDraft mEarlier mRemembered mHasImage mIsLaid mOne mTwo mShare mX mY mD mEventX mEventY mEventD mEvents mCrossingOf mBundle mEventOf mDegree mFrom mTo mCrossings mEdges mMet mUpper mLower mTape mTaped mPoint mEnd mBegin mFaultAt mFive mTold mActs mFar mViews mHullX mHullY mEndX mEndY mHeightUp mHeightLow mMeets mMeetsOf Rw) → va_S (xsF X) s.heap H locs → lv_has ls 3 [(0, .ref (xsA X 100)), (1, .int o5)] → W p l e { frames := 2, cells := 0, slots := 0, locals := 57 } s m ([.ref (xsA X 100)] : List Value).toArray below meth c H locs 0 0 (MQ below Qq ([.ref (xsA X 100)] : List Value).toArray s 0 0 (xsF X)) (F0 m 52 ls [.int y7, .int (0 : Int32), .ref (xsA X 107)]) := by
    intro y7 hf H locs ls hP hD hS hl
    unfold fX11_sharesLine_J52 at hf
    replace hf := xsCk_use hf
    obtain ⟨h8, hf⟩ := hf
    refine xs_mShare C hP hD hS h8 dX11_sharesLine_52 (fun f9 ef9 H locs hP hD hS => ?_)
    replace hf := xsLt_use ef9 hf
    refine lv_aload_n hx hb dX11_sharesLine_53 rfl (lv_at hl 0 rfl) ?_
    refine xg_X11_32 C hP dX11_sharesLine_54 ?_
    refine lv_iconst (v := (1 : Int32)) hx hb dX11_sharesLine_57 (by decide) ?_
    refine lv_iload_n hx hb dX11_sharesLine_58 rfl (lv_at hl 1 rfl) ?_
    have K53 : ∀ (y10 : Int32) (hf : fX11_sharesLine_J77 mOne mTwo mX mY mD f9 y10 = some out) (H : Heap) (locs : List Loc) (ls : Array Slot), va_P (xsD X) vwCl (wM X mThrown mWorld mImage mDraft mEarlier mRemembered mHasImage mIsLaid mOne mTwo f9 mX mY mD mEventX mEventY mEventD mEvents mCrossingOf mBundle mEventOf mDegree mFrom mTo mCrossings mEdges mMet mUpper mLower mTape mTaped mPoint mEnd mBegin mFaultAt mFive mTold mActs mFar mViews mHullX mHullY mEndX mEndY mHeightUp mHeightLow mMeets mMeetsOf Rw) H → va_D (xsF X) (wM X mThrown mWorld mImage mDraft mEarlier mRemembered mHasImage mIsLaid mOne mTwo f9 mX mY mD mEventX mEventY mEventD mEvents mCrossingOf mBundle mEventOf mDegree mFrom mTo mCrossings mEdges mMet mUpper mLower mTape mTaped mPoint mEnd mBegin mFaultAt mFive mTold mActs mFar mViews mHullX mHullY mEndX mEndY mHeightUp mHeightLow mMeets mMeetsOf Rw) → va_S (xsF X) s.heap H locs → lv_has ls 3 [(0, .ref (xsA X 100))] → W p l e { frames := 2, cells := 0, slots := 0, locals := 57 } s m ([.ref (xsA X 100)] : List Value).toArray below meth c H locs 0 0 (MQ below Qq ([.ref (xsA X 100)] : List Value).toArray s 0 0 (xsF X)) (F0 m 77 ls [.int y10, .int (1 : Int32), .ref (xsA X 107)]) := by
      intro y10 hf H locs ls hP hD hS hl
      unfold fX11_sharesLine_J77 at hf
      replace hf := xsCk_use hf
      obtain ⟨h11, hf⟩ := hf
      refine xs_mShare C hP hD hS h11 dX11_sharesLine_77 (fun f12 ef12 H locs hP hD hS => ?_)
      replace hf := xsLt_use ef12 hf
      refine lv_aload_n hx hb dX11_sharesLine_78 rfl (lv_at hl 0 rfl) ?_
      refine xg_X11_26 C hP dX11_sharesLine_79 ?_
      refine lv_iconst (v := (2 : Int32)) hx hb dX11_sharesLine_82 (by decide) ?_
      replace hf := xsCk_use hf
      obtain ⟨h13, hf⟩ := hf
      refine xl_mOne C hP h13 dX11_sharesLine_83 ?_
      refine lv_aload_n hx hb dX11_sharesLine_84 rfl (lv_at hl 0 rfl) ?_
      refine xg_X11_26 C hP dX11_sharesLine_85 ?_
      refine lv_iconst (v := (3 : Int32)) hx hb dX11_sharesLine_88 (by decide) ?_
      replace hf := xsCk_use hf
      obtain ⟨h14, hf⟩ := hf
      refine xl_mOne C hP h14 dX11_sharesLine_89 ?_
      refine lv_aload_n hx hb dX11_sharesLine_90 rfl (lv_at hl 0 rfl) ?_
      refine xg_X11_29 C hP dX11_sharesLine_91 ?_
      refine lv_iconst (v := (2 : Int32)) hx hb dX11_sharesLine_94 (by decide) ?_
      replace hf := xsCk_use hf
      obtain ⟨h15, hf⟩ := hf
      refine xl_mTwo C hP h15 dX11_sharesLine_95 ?_
      refine lv_aload_n hx hb dX11_sharesLine_96 rfl (lv_at hl 0 rfl) ?_
      refine xg_X11_29 C hP dX11_sharesLine_97 ?_
      refine lv_iconst (v := (3 : Int32)) hx hb dX11_sharesLine_100 (by decide) ?_
      replace hf := xsCk_use hf
      obtain ⟨h16, hf⟩ := hf
      refine xl_mTwo C hP h16 dX11_sharesLine_101 ?_
      replace hf := xsBd_use hf
      obtain ⟨o17, h18, hf⟩ := hf
      refine xs_calli hS (xs_runS (As := [.int (mOne (2 : Int32).toNatClampNeg), .int (mOne (3 : Int32).toNatClampNeg), .int (mTwo (2 : Int32).toNatClampNeg), .int (mTwo (3 : Int32).toNatClampNeg)]) C (mX11_isAhead l  h18) w_1688 w_1689 w_115 w_1690 hd_X11_isAhead ⟨rfl, rfl, Nat.le_of_ble_eq_true rfl, Nat.le_of_ble_eq_true rfl, Nat.zero_le _, Nat.zero_le _⟩ hP hD hS hl.1 rfl (Nat.le_of_ble_eq_true rfl) dX11_sharesLine_102) (fun H locs hP hD hS => ?_)
      refine lv_istore_n (lv' := [(2, .int o17), (0, .ref (xsA X 100))]) hx hb dX11_sharesLine_105 rfl hl (by decide) rfl (fun ls hl => ?_)
      refine lv_aload_n hx hb dX11_sharesLine_106 rfl (lv_at hl 1 rfl) ?_
      refine xg_X11_32 C hP dX11_sharesLine_107 ?_
      refine lv_iconst (v := (2 : Int32)) hx hb dX11_sharesLine_110 (by decide) ?_
      refine lv_iload_n hx hb dX11_sharesLine_111 rfl (lv_at hl 0 rfl) ?_
      have K47 : ∀ (y19 : Int32) (hf : fX11_sharesLine_J130 mOne mTwo mX mY mD f12 o17 y19 = some out) (H : Heap) (locs : List Loc) (ls : Array Slot), va_P (xsD X) vwCl (wM X mThrown mWorld mImage mDraft mEarlier mRemembered mHasImage mIsLaid mOne mTwo f12 mX mY mD mEventX mEventY mEventD mEvents mCrossingOf mBundle mEventOf mDegree mFrom mTo mCrossings mEdges mMet mUpper mLower mTape mTaped mPoint mEnd mBegin mFaultAt mFive mTold mActs mFar mViews mHullX mHullY mEndX mEndY mHeightUp mHeightLow mMeets mMeetsOf Rw) H → va_D (xsF X) (wM X mThrown mWorld mImage mDraft mEarlier mRemembered mHasImage mIsLaid mOne mTwo f12 mX mY mD mEventX mEventY mEventD mEvents mCrossingOf mBundle mEventOf mDegree mFrom mTo mCrossings mEdges mMet mUpper mLower mTape mTaped mPoint mEnd mBegin mFaultAt mFive mTold mActs mFar mViews mHullX mHullY mEndX mEndY mHeightUp mHeightLow mMeets mMeetsOf Rw) → va_S (xsF X) s.heap H locs → lv_has ls 3 [(0, .ref (xsA X 100)), (2, .int o17)] → W p l e { frames := 2, cells := 0, slots := 0, locals := 57 } s m ([.ref (xsA X 100)] : List Value).toArray below meth c H locs 0 0 (MQ below Qq ([.ref (xsA X 100)] : List Value).toArray s 0 0 (xsF X)) (F0 m 130 ls [.int y19, .int (2 : Int32), .ref (xsA X 107)]) := by
        intro y19 hf H locs ls hP hD hS hl
        unfold fX11_sharesLine_J130 at hf
        replace hf := xsCk_use hf
        obtain ⟨h20, hf⟩ := hf
        refine xs_mShare C hP hD hS h20 dX11_sharesLine_130 (fun f21 ef21 H locs hP hD hS => ?_)
        replace hf := xsLt_use ef21 hf
        refine lv_aload_n hx hb dX11_sharesLine_131 rfl (lv_at hl 0 rfl) ?_
        refine xg_X11_32 C hP dX11_sharesLine_132 ?_
        refine lv_iconst (v := (3 : Int32)) hx hb dX11_sharesLine_135 (by decide) ?_
        refine lv_iload_n hx hb dX11_sharesLine_136 rfl (lv_at hl 1 rfl) ?_
        have K41 : ∀ (y22 : Int32) (hf : fX11_sharesLine_J155 mX mY mD f21 y22 = some out) (H : Heap) (locs : List Loc) (ls : Array Slot), va_P (xsD X) vwCl (wM X mThrown mWorld mImage mDraft mEarlier mRemembered mHasImage mIsLaid mOne mTwo f21 mX mY mD mEventX mEventY mEventD mEvents mCrossingOf mBundle mEventOf mDegree mFrom mTo mCrossings mEdges mMet mUpper mLower mTape mTaped mPoint mEnd mBegin mFaultAt mFive mTold mActs mFar mViews mHullX mHullY mEndX mEndY mHeightUp mHeightLow mMeets mMeetsOf Rw) H → va_D (xsF X) (wM X mThrown mWorld mImage mDraft mEarlier mRemembered mHasImage mIsLaid mOne mTwo f21 mX mY mD mEventX mEventY mEventD mEvents mCrossingOf mBundle mEventOf mDegree mFrom mTo mCrossings mEdges mMet mUpper mLower mTape mTaped mPoint mEnd mBegin mFaultAt mFive mTold mActs mFar mViews mHullX mHullY mEndX mEndY mHeightUp mHeightLow mMeets mMeetsOf Rw) → va_S (xsF X) s.heap H locs → lv_has ls 3 [(0, .ref (xsA X 100))] → W p l e { frames := 2, cells := 0, slots := 0, locals := 57 } s m ([.ref (xsA X 100)] : List Value).toArray below meth c H locs 0 0 (MQ below Qq ([.ref (xsA X 100)] : List Value).toArray s 0 0 (xsF X)) (F0 m 155 ls [.int y22, .int (3 : Int32), .ref (xsA X 107)]) := by
          intro y22 hf H locs ls hP hD hS hl
          unfold fX11_sharesLine_J155 at hf
          replace hf := xsCk_use hf
          obtain ⟨h23, hf⟩ := hf
          refine xs_mShare C hP hD hS h23 dX11_sharesLine_155 (fun f24 ef24 H locs hP hD hS => ?_)
          replace hf := xsLt_use ef24 hf
          refine lv_aload_n hx hb dX11_sharesLine_156 rfl (lv_at hl 0 rfl) ?_
          refine xg_X11_32 C hP dX11_sharesLine_157 ?_
          refine lv_iconst (v := (2 : Int32)) hx hb dX11_sharesLine_160 (by decide) ?_
          replace hf := xsCk_use hf
          obtain ⟨h25, hf⟩ := hf
          refine xl_mShare C hP h25 dX11_sharesLine_161 ?_
          refine lv_aload_n hx hb dX11_sharesLine_162 rfl (lv_at hl 0 rfl) ?_
          refine xg_X11_32 C hP dX11_sharesLine_163 ?_
          refine lv_iconst (v := (3 : Int32)) hx hb dX11_sharesLine_166 (by decide) ?_
          replace hf := xsCk_use hf
          obtain ⟨h26, hf⟩ := hf
          refine xl_mShare C hP h26 dX11_sharesLine_167 ?_
          refine lv_aload_n hx hb dX11_sharesLine_168 rfl (lv_at hl 0 rfl) ?_
          refine xg_X11_32 C hP dX11_sharesLine_169 ?_
          refine lv_iconst (v := (0 : Int32)) hx hb dX11_sharesLine_172 (by decide) ?_
          replace hf := xsCk_use hf
          obtain ⟨h27, hf⟩ := hf
          refine xl_mShare C hP h27 dX11_sharesLine_173 ?_
          refine lv_aload_n hx hb dX11_sharesLine_174 rfl (lv_at hl 0 rfl) ?_
          refine xg_X11_32 C hP dX11_sharesLine_175 ?_
          refine lv_iconst (v := (1 : Int32)) hx hb dX11_sharesLine_178 (by decide) ?_
          replace hf := xsCk_use hf
          obtain ⟨h28, hf⟩ := hf
          refine xl_mShare C hP h28 dX11_sharesLine_179 ?_
          replace hf := xsBd_use hf
          obtain ⟨o29, h30, hf⟩ := hf
          refine xs_calli hS (xs_runS (As := [.int (f24 (2 : Int32).toNatClampNeg), .int (f24 (3 : Int32).toNatClampNeg), .int (f24 (0 : Int32).toNatClampNeg), .int (f24 (1 : Int32).toNatClampNeg)]) C (mX11_isAhead l  h30) w_1688 w_1689 w_115 w_1690 hd_X11_isAhead ⟨rfl, rfl, Nat.le_of_ble_eq_true rfl, Nat.le_of_ble_eq_true rfl, Nat.zero_le _, Nat.zero_le _⟩ hP hD hS hl.1 rfl (Nat.le_of_ble_eq_true rfl) dX11_sharesLine_180) (fun H locs hP hD hS => ?_)
          refine lv_if_eq (tgt := 188) hx hb dX11_sharesLine_183 (by decide) (fun c38 => ?_) (fun c38 => ?_)
          · replace hf := xsBr_t c38 hf
            refine lv_aload_n hx hb dX11_sharesLine_188 rfl (lv_at hl 0 rfl) ?_
            refine xg_X11_32 C hP dX11_sharesLine_189 ?_
            replace hf := xsBd_use hf
            obtain ⟨o31, h32, hf⟩ := hf
            refine xs_calli hS (xs_runS (As := [.ref (xsA X 107)]) C (mX11_isMere l  h32) w_1669 w_1670 w_115 w_1671 hd_X11_isMere ⟨rfl, rfl, Nat.le_of_ble_eq_true rfl, Nat.le_of_ble_eq_true rfl, Nat.zero_le _, Nat.zero_le _⟩ hP hD hS hl.1 rfl (Nat.le_of_ble_eq_true rfl) dX11_sharesLine_192) (fun H locs hP hD hS => ?_)
            refine lv_if_eq (tgt := 220) hx hb dX11_sharesLine_195 (by decide) (fun c37 => ?_) (fun c37 => ?_)
            · replace hf := xsBr_t c37 hf
              refine lv_iconst (v := (2 : Int32)) hx hb dX11_sharesLine_220 (by decide) ?_
              have ho := Option.some.inj hf
              subst ho
              rw [hQq]
              exact xs_iret C hr hlk hP hD hS dX11_sharesLine_221
            · replace hf := xsBr_f c37 hf
              refine lv_aload_n hx hb dX11_sharesLine_198 rfl (lv_at hl 0 rfl) ?_
              refine lv_aload_n hx hb dX11_sharesLine_199 rfl (lv_at hl 0 rfl) ?_
              refine xg_X11_32 C hP dX11_sharesLine_200 ?_
              refine lv_iconst (v := (0 : Int32)) hx hb dX11_sharesLine_203 (by decide) ?_
              replace hf := xsCk_use hf
              obtain ⟨h33, hf⟩ := hf
              refine xl_mShare C hP h33 dX11_sharesLine_204 ?_
              refine lv_i2l hx hb dX11_sharesLine_205 rfl ?_
              refine lv_aload_n hx hb dX11_sharesLine_206 rfl (lv_at hl 0 rfl) ?_
              refine xg_X11_32 C hP dX11_sharesLine_207 ?_
              refine lv_iconst (v := (1 : Int32)) hx hb dX11_sharesLine_210 (by decide) ?_
              replace hf := xsCk_use hf
              obtain ⟨h34, hf⟩ := hf
              refine xl_mShare C hP h34 dX11_sharesLine_211 ?_
              refine lv_i2l hx hb dX11_sharesLine_212 rfl ?_
              refine lv_lconst (v := (1 : Int64)) hx hb dX11_sharesLine_213 (by decide) ?_
              replace hf := xsBd_use hf
              obtain ⟨o35, h36, hf⟩ := hf
              refine xs_calli hS (xs_runV (As := [.long (f24 (0 : Int32).toNatClampNeg).toInt64, .long (f24 (1 : Int32).toNatClampNeg).toInt64, .long (1 : Int64)]) C (mX11_sharesPoint l  h36) w_1677 w_1679 w_61 w_115 w_1680 hd_X11_sharesPoint ⟨rfl, rfl, Nat.le_of_ble_eq_true rfl, Nat.le_of_ble_eq_true rfl, Nat.zero_le _, Nat.zero_le _⟩ hP hD hS lk_X11 rfl hl.1 rfl (Nat.le_of_ble_eq_true rfl) dX11_sharesLine_214) (fun H locs hP hD hS => ?_)
              refine lv_goto (tgt := 221) hx hb dX11_sharesLine_217 (by decide) ?_
              have ho := Option.some.inj hf
              subst ho
              rw [hQq]
              exact xs_iret C hr hlk hP hD hS dX11_sharesLine_221
          · replace hf := xsBr_f c38 hf
            refine lv_iconst (v := (0 : Int32)) hx hb dX11_sharesLine_186 (by decide) ?_
            have ho := Option.some.inj hf
            subst ho
            rw [hQq]
            exact xs_iret C hr hlk hP hD hS dX11_sharesLine_187
        replace hf := xsBd_use hf
        obtain ⟨v39, hf, hk40⟩ := hf
        refine lv_if_eq (tgt := 149) hx hb dX11_sharesLine_137 (by decide) (fun c44 => ?_) (fun c44 => ?_)
        · replace hf := xsBr_t c44 hf
          refine lv_aload_n hx hb dX11_sharesLine_149 rfl (lv_at hl 0 rfl) ?_
          refine xg_X11_29 C hP dX11_sharesLine_150 ?_
          refine lv_iconst (v := (3 : Int32)) hx hb dX11_sharesLine_153 (by decide) ?_
          replace hf := xsCk_use hf
          obtain ⟨h42, hf⟩ := hf
          refine xl_mTwo C hP h42 dX11_sharesLine_154 ?_
          have ev := Option.some.inj hf
          subst ev
          exact K41 (mTwo (3 : Int32).toNatClampNeg) hk40 H locs ls hP hD hS (lv_sub hl [0] rfl)
        · replace hf := xsBr_f c44 hf
          refine lv_aload_n hx hb dX11_sharesLine_140 rfl (lv_at hl 0 rfl) ?_
          refine xg_X11_26 C hP dX11_sharesLine_141 ?_
          refine lv_iconst (v := (3 : Int32)) hx hb dX11_sharesLine_144 (by decide) ?_
          replace hf := xsCk_use hf
          obtain ⟨h43, hf⟩ := hf
          refine xl_mOne C hP h43 dX11_sharesLine_145 ?_
          refine lv_goto (tgt := 155) hx hb dX11_sharesLine_146 (by decide) ?_
          have ev := Option.some.inj hf
          subst ev
          exact K41 (mOne (3 : Int32).toNatClampNeg) hk40 H locs ls hP hD hS (lv_sub hl [0] rfl)
      replace hf := xsBd_use hf
      obtain ⟨v45, hf, hk46⟩ := hf
      refine lv_if_eq (tgt := 124) hx hb dX11_sharesLine_112 (by decide) (fun c50 => ?_) (fun c50 => ?_)
      · replace hf := xsBr_t c50 hf
        refine lv_aload_n hx hb dX11_sharesLine_124 rfl (lv_at hl 1 rfl) ?_
        refine xg_X11_29 C hP dX11_sharesLine_125 ?_
        refine lv_iconst (v := (2 : Int32)) hx hb dX11_sharesLine_128 (by decide) ?_
        replace hf := xsCk_use hf
        obtain ⟨h48, hf⟩ := hf
        refine xl_mTwo C hP h48 dX11_sharesLine_129 ?_
        have ev := Option.some.inj hf
        subst ev
        exact K47 (mTwo (2 : Int32).toNatClampNeg) hk46 H locs ls hP hD hS (lv_sub hl [1, 0] rfl)
      · replace hf := xsBr_f c50 hf
        refine lv_aload_n hx hb dX11_sharesLine_115 rfl (lv_at hl 1 rfl) ?_
        refine xg_X11_26 C hP dX11_sharesLine_116 ?_
        refine lv_iconst (v := (2 : Int32)) hx hb dX11_sharesLine_119 (by decide) ?_
        replace hf := xsCk_use hf
        obtain ⟨h49, hf⟩ := hf
        refine xl_mOne C hP h49 dX11_sharesLine_120 ?_
        refine lv_goto (tgt := 130) hx hb dX11_sharesLine_121 (by decide) ?_
        have ev := Option.some.inj hf
        subst ev
        exact K47 (mOne (2 : Int32).toNatClampNeg) hk46 H locs ls hP hD hS (lv_sub hl [1, 0] rfl)
    replace hf := xsBd_use hf
    obtain ⟨v51, hf, hk52⟩ := hf
    refine lv_if_eq (tgt := 71) hx hb dX11_sharesLine_59 (by decide) (fun c56 => ?_) (fun c56 => ?_)
    · replace hf := xsBr_t c56 hf
      refine lv_aload_n hx hb dX11_sharesLine_71 rfl (lv_at hl 0 rfl) ?_
      refine xg_X11_26 C hP dX11_sharesLine_72 ?_
      refine lv_iconst (v := (1 : Int32)) hx hb dX11_sharesLine_75 (by decide) ?_
      replace hf := xsCk_use hf
      obtain ⟨h54, hf⟩ := hf
      refine xl_mOne C hP h54 dX11_sharesLine_76 ?_
      have ev := Option.some.inj hf
      subst ev
      exact K53 (mOne (1 : Int32).toNatClampNeg) hk52 H locs ls hP hD hS (lv_sub hl [0] rfl)
    · replace hf := xsBr_f c56 hf
      refine lv_aload_n hx hb dX11_sharesLine_62 rfl (lv_at hl 0 rfl) ?_
      refine xg_X11_29 C hP dX11_sharesLine_63 ?_
      refine lv_iconst (v := (1 : Int32)) hx hb dX11_sharesLine_66 (by decide) ?_
      replace hf := xsCk_use hf
      obtain ⟨h55, hf⟩ := hf
      refine xl_mTwo C hP h55 dX11_sharesLine_67 ?_
      refine lv_goto (tgt := 77) hx hb dX11_sharesLine_68 (by decide) ?_
      have ev := Option.some.inj hf
      subst ev
      exact K53 (mTwo (1 : Int32).toNatClampNeg) hk52 H locs ls hP hD hS (lv_sub hl [0] rfl)
  replace hf := xsBd_use hf
  obtain ⟨v57, hf, hk58⟩ := hf
  refine lv_if_eq (tgt := 46) hx hb dX11_sharesLine_34 (by decide) (fun c62 => ?_) (fun c62 => ?_)
  · replace hf := xsBr_t c62 hf
    refine lv_aload_n hx hb dX11_sharesLine_46 rfl (lv_at hl 1 rfl) ?_
    refine xg_X11_26 C hP dX11_sharesLine_47 ?_
    refine lv_iconst (v := (0 : Int32)) hx hb dX11_sharesLine_50 (by decide) ?_
    replace hf := xsCk_use hf
    obtain ⟨h60, hf⟩ := hf
    refine xl_mOne C hP h60 dX11_sharesLine_51 ?_
    have ev := Option.some.inj hf
    subst ev
    exact K59 (mOne (0 : Int32).toNatClampNeg) hk58 H locs ls hP hD hS (lv_sub hl [1, 0] rfl)
  · replace hf := xsBr_f c62 hf
    refine lv_aload_n hx hb dX11_sharesLine_37 rfl (lv_at hl 1 rfl) ?_
    refine xg_X11_29 C hP dX11_sharesLine_38 ?_
    refine lv_iconst (v := (0 : Int32)) hx hb dX11_sharesLine_41 (by decide) ?_
    replace hf := xsCk_use hf
    obtain ⟨h61, hf⟩ := hf
    refine xl_mTwo C hP h61 dX11_sharesLine_42 ?_
    refine lv_goto (tgt := 52) hx hb dX11_sharesLine_43 (by decide) ?_
    have ev := Option.some.inj hf
    subst ev
    exact K59 (mTwo (0 : Int32).toNatClampNeg) hk58 H locs ls hP hD hS (lv_sub hl [1, 0] rfl)
set_option maxRecDepth 100000 in
set_option maxHeartbeats 8000000 in
theorem mX11_isMere_v1 (l : Launch) {X : xsX} {mThrown mRemembered mHasImage mIsLaid mEvents mCrossings mEdges mTaped mPoint mEnd mBegin mFaultAt mActs : Int32} {mWorld mImage mDraft mEarlier mOne mTwo mShare mCrossingOf mBundle mEventOf mDegree mFrom mTo mMet mTape mFive mTold mFar mViews mHullX mHullY mEndX mEndY mMeets mMeetsOf : Nat → Int32} {mX mY mD mHeightUp mHeightLow : Int64} {mEventX mEventY mEventD mUpper mLower : Nat → Int64} {Rw : va_W} {out : Int32} (hf : fX11_isMere_v1 mOne = some out) : Met l yX11_isMere (xsWs yX11_isMere cX11_isMere 1 (some .boolean)) { frames := 0, cells := 0, slots := 0, locals := 0 } (xsP X (wM X mThrown mWorld mImage mDraft mEarlier mRemembered mHasImage mIsLaid mOne mTwo mShare mX mY mD mEventX mEventY mEventD mEvents mCrossingOf mBundle mEventOf mDegree mFrom mTo mCrossings mEdges mMet mUpper mLower mTape mTaped mPoint mEnd mBegin mFaultAt mFive mTold mActs mFar mViews mHullX mHullY mEndX mEndY mHeightUp mHeightLow mMeets mMeetsOf Rw) [.ref (xsA X 105)]) (xsQi X out (wM X mThrown mWorld mImage mDraft mEarlier mRemembered mHasImage mIsLaid mOne mTwo mShare mX mY mD mEventX mEventY mEventD mEvents mCrossingOf mBundle mEventOf mDegree mFrom mTo mCrossings mEdges mMet mUpper mLower mTape mTaped mPoint mEnd mBegin mFaultAt mFive mTold mActs mFar mViews mHullX mHullY mEndX mEndY mHeightUp mHeightLow mMeets mMeetsOf Rw)) 0 0 (xsF X) := by
  refine xs_meth RX11 (by decide) rfl (Nat.le_of_ble_eq_true rfl) ?_
  intro p e s m below meth c ls H locs C hP hD hS hr hlk hl
  have hx := C.1
  have hb := C.2.1
  have hl : lv_has ls 1 [(0, .ref (xsA X 105))] := hl
  obtain ⟨Qq, hQq⟩ : ∃ Qq, Qq = xsQi X out (wM X mThrown mWorld mImage mDraft mEarlier mRemembered mHasImage mIsLaid mOne mTwo mShare mX mY mD mEventX mEventY mEventD mEvents mCrossingOf mBundle mEventOf mDegree mFrom mTo mCrossings mEdges mMet mUpper mLower mTape mTaped mPoint mEnd mBegin mFaultAt mFive mTold mActs mFar mViews mHullX mHullY mEndX mEndY mHeightUp mHeightLow mMeets mMeetsOf Rw) := ⟨_, rfl⟩
  rw [← hQq]
  unfold fX11_isMere_v1 at hf
  refine lv_aload_n hx hb dX11_isMere_0 rfl (lv_at hl 0 rfl) ?_
  refine lv_iconst (v := (0 : Int32)) hx hb dX11_isMere_1 (by decide) ?_
  replace hf := xsCk_use hf
  obtain ⟨h1, hf⟩ := hf
  refine xl_mOne C hP h1 dX11_isMere_2 ?_
  refine lv_aload_n hx hb dX11_isMere_3 rfl (lv_at hl 0 rfl) ?_
  refine lv_iconst (v := (2 : Int32)) hx hb dX11_isMere_4 (by decide) ?_
  replace hf := xsCk_use hf
  obtain ⟨h2, hf⟩ := hf
  refine xl_mOne C hP h2 dX11_isMere_5 ?_
  refine lv_icmp_ne (tgt := 22) hx hb dX11_isMere_6 (by decide) (fun c6 => ?_) (fun c6 => ?_)
  · replace hf := xsBr_f c6 hf
    refine lv_iconst (v := (0 : Int32)) hx hb dX11_isMere_22 (by decide) ?_
    have ho := Option.some.inj hf
    subst ho
    rw [hQq]
    exact xs_zret C hr hlk xsB_0 hP hD hS dX11_isMere_23
  · replace hf := xsBr_t c6 hf
    refine lv_aload_n hx hb dX11_isMere_9 rfl (lv_at hl 0 rfl) ?_
    refine lv_iconst (v := (1 : Int32)) hx hb dX11_isMere_10 (by decide) ?_
    replace hf := xsCk_use hf
    obtain ⟨h3, hf⟩ := hf
    refine xl_mOne C hP h3 dX11_isMere_11 ?_
    refine lv_aload_n hx hb dX11_isMere_12 rfl (lv_at hl 0 rfl) ?_
    refine lv_iconst (v := (3 : Int32)) hx hb dX11_isMere_13 (by decide) ?_
    replace hf := xsCk_use hf
    obtain ⟨h4, hf⟩ := hf
    refine xl_mOne C hP h4 dX11_isMere_14 ?_
    refine lv_icmp_ne (tgt := 22) hx hb dX11_isMere_15 (by decide) (fun c5 => ?_) (fun c5 => ?_)
    · replace hf := xsBr_f c5 hf
      refine lv_iconst (v := (0 : Int32)) hx hb dX11_isMere_22 (by decide) ?_
      have ho := Option.some.inj hf
      subst ho
      rw [hQq]
      exact xs_zret C hr hlk xsB_0 hP hD hS dX11_isMere_23
    · replace hf := xsBr_t c5 hf
      refine lv_iconst (v := (1 : Int32)) hx hb dX11_isMere_18 (by decide) ?_
      refine lv_goto (tgt := 23) hx hb dX11_isMere_19 (by decide) ?_
      have ho := Option.some.inj hf
      subst ho
      rw [hQq]
      exact xs_zret C hr hlk xsB_1 hP hD hS dX11_isMere_23
set_option maxRecDepth 100000 in
set_option maxHeartbeats 8000000 in
theorem mX11_isOn (l : Launch) {X : xsX} {mThrown mRemembered mHasImage mIsLaid mEvents mCrossings mEdges mTaped mPoint mEnd mBegin mFaultAt mActs : Int32} {mWorld mImage mDraft mEarlier mOne mTwo mShare mCrossingOf mBundle mEventOf mDegree mFrom mTo mMet mTape mFive mTold mFar mViews mHullX mHullY mEndX mEndY mMeets mMeetsOf : Nat → Int32} {mX mY mD mHeightUp mHeightLow : Int64} {mEventX mEventY mEventD mUpper mLower : Nat → Int64} {Rw : va_W} {a1 : Int64} {a2 : Int64} {a3 : Int64} {out : Int32} (hf : fX11_isOn mTwo a1 a2 a3 = some out) : Met l yX11_isOn (xsWs yX11_isOn cX11_isOn 11 (some .boolean)) { frames := 1, cells := 0, slots := 0, locals := 25 } (xsP X (wM X mThrown mWorld mImage mDraft mEarlier mRemembered mHasImage mIsLaid mOne mTwo mShare mX mY mD mEventX mEventY mEventD mEvents mCrossingOf mBundle mEventOf mDegree mFrom mTo mCrossings mEdges mMet mUpper mLower mTape mTaped mPoint mEnd mBegin mFaultAt mFive mTold mActs mFar mViews mHullX mHullY mEndX mEndY mHeightUp mHeightLow mMeets mMeetsOf Rw) [.ref (xsA X 106), .long a1, .long a2, .long a3]) (xsQi X out (wM X mThrown mWorld mImage mDraft mEarlier mRemembered mHasImage mIsLaid mOne mTwo mShare mX mY mD mEventX mEventY mEventD mEvents mCrossingOf mBundle mEventOf mDegree mFrom mTo mCrossings mEdges mMet mUpper mLower mTape mTaped mPoint mEnd mBegin mFaultAt mFive mTold mActs mFar mViews mHullX mHullY mEndX mEndY mHeightUp mHeightLow mMeets mMeetsOf Rw)) 0 0 (xsF X) := by
  refine xs_meth RX11 (by decide) rfl (Nat.le_of_ble_eq_true rfl) ?_
  intro p e s m below meth c ls H locs C hP hD hS hr hlk hl
  have hx := C.1
  have hb := C.2.1
  have hl : lv_has ls 11 [(0, .ref (xsA X 106)), (1, .long a1), (3, .long a2), (5, .long a3)] := hl
  obtain ⟨Qq, hQq⟩ : ∃ Qq, Qq = xsQi X out (wM X mThrown mWorld mImage mDraft mEarlier mRemembered mHasImage mIsLaid mOne mTwo mShare mX mY mD mEventX mEventY mEventD mEvents mCrossingOf mBundle mEventOf mDegree mFrom mTo mCrossings mEdges mMet mUpper mLower mTape mTaped mPoint mEnd mBegin mFaultAt mFive mTold mActs mFar mViews mHullX mHullY mEndX mEndY mHeightUp mHeightLow mMeets mMeetsOf Rw) := ⟨_, rfl⟩
  rw [← hQq]
  unfold fX11_isOn at hf
  refine lv_aload_n hx hb dX11_isOn_0 rfl (lv_at hl 0 rfl) ?_
  refine lv_iconst (v := (2 : Int32)) hx hb dX11_isOn_1 (by decide) ?_
  replace hf := xsCk_use hf
  obtain ⟨h1, hf⟩ := hf
  refine xl_mTwo C hP h1 dX11_isOn_2 ?_
  refine lv_aload_n hx hb dX11_isOn_3 rfl (lv_at hl 0 rfl) ?_
  refine lv_iconst (v := (0 : Int32)) hx hb dX11_isOn_4 (by decide) ?_
  replace hf := xsCk_use hf
  obtain ⟨h2, hf⟩ := hf
  refine xl_mTwo C hP h2 dX11_isOn_5 ?_
  refine lv_isub hx hb dX11_isOn_6 ?_
  refine lv_i2l hx hb dX11_isOn_7 rfl ?_
  refine lv_topl (fun x3 ex3 => ?_)
  replace hf := xsLt_use ex3 hf
  refine lv_lstore (lv' := [(7, .long x3), (0, .ref (xsA X 106)), (1, .long a1), (3, .long a2), (5, .long a3)]) hx hb dX11_isOn_8 hl (by decide) rfl (fun ls hl => ?_)
  refine lv_aload_n hx hb dX11_isOn_10 rfl (lv_at hl 1 rfl) ?_
  refine lv_iconst (v := (3 : Int32)) hx hb dX11_isOn_11 (by decide) ?_
  replace hf := xsCk_use hf
  obtain ⟨h4, hf⟩ := hf
  refine xl_mTwo C hP h4 dX11_isOn_12 ?_
  refine lv_aload_n hx hb dX11_isOn_13 rfl (lv_at hl 1 rfl) ?_
  refine lv_iconst (v := (1 : Int32)) hx hb dX11_isOn_14 (by decide) ?_
  replace hf := xsCk_use hf
  obtain ⟨h5, hf⟩ := hf
  refine xl_mTwo C hP h5 dX11_isOn_15 ?_
  refine lv_isub hx hb dX11_isOn_16 ?_
  refine lv_i2l hx hb dX11_isOn_17 rfl ?_
  refine lv_topl (fun x6 ex6 => ?_)
  replace hf := xsLt_use ex6 hf
  refine lv_lstore (lv' := [(9, .long x6), (7, .long x3), (0, .ref (xsA X 106)), (1, .long a1), (3, .long a2), (5, .long a3)]) hx hb dX11_isOn_18 hl (by decide) rfl (fun ls hl => ?_)
  refine lv_lload_n hx hb dX11_isOn_20 rfl (lv_at hl 3 rfl) ?_
  refine lv_aload_n hx hb dX11_isOn_21 rfl (lv_at hl 2 rfl) ?_
  refine lv_iconst (v := (0 : Int32)) hx hb dX11_isOn_22 (by decide) ?_
  replace hf := xsCk_use hf
  obtain ⟨h7, hf⟩ := hf
  refine xl_mTwo C hP h7 dX11_isOn_23 ?_
  refine lv_i2l hx hb dX11_isOn_24 rfl ?_
  refine lv_lload hx hb dX11_isOn_25 (lv_at hl 5 rfl) ?_
  refine lv_lmul hx hb dX11_isOn_27 ?_
  refine lv_lsub hx hb dX11_isOn_28 ?_
  refine lv_lload hx hb dX11_isOn_29 (lv_at hl 0 rfl) ?_
  refine lv_lmul hx hb dX11_isOn_31 ?_
  refine lv_lload_n hx hb dX11_isOn_32 rfl (lv_at hl 4 rfl) ?_
  refine lv_aload_n hx hb dX11_isOn_33 rfl (lv_at hl 2 rfl) ?_
  refine lv_iconst (v := (1 : Int32)) hx hb dX11_isOn_34 (by decide) ?_
  replace hf := xsCk_use hf
  obtain ⟨h8, hf⟩ := hf
  refine xl_mTwo C hP h8 dX11_isOn_35 ?_
  refine lv_i2l hx hb dX11_isOn_36 rfl ?_
  refine lv_lload hx hb dX11_isOn_37 (lv_at hl 5 rfl) ?_
  refine lv_lmul hx hb dX11_isOn_39 ?_
  refine lv_lsub hx hb dX11_isOn_40 ?_
  refine lv_lload hx hb dX11_isOn_41 (lv_at hl 1 rfl) ?_
  refine lv_lmul hx hb dX11_isOn_43 ?_
  refine xs_lcmp_eq (tgt := 50) C dX11_isOn_44 dX11_isOn_45 (by decide) (fun c21 => ?_) (fun c21 => ?_)
  · replace hf := xsBr_t c21 hf
    refine lv_lload_n hx hb dX11_isOn_50 rfl (lv_at hl 3 rfl) ?_
    refine lv_aload_n hx hb dX11_isOn_51 rfl (lv_at hl 2 rfl) ?_
    refine lv_iconst (v := (0 : Int32)) hx hb dX11_isOn_52 (by decide) ?_
    replace hf := xsCk_use hf
    obtain ⟨h9, hf⟩ := hf
    refine xl_mTwo C hP h9 dX11_isOn_53 ?_
    refine lv_i2l hx hb dX11_isOn_54 rfl ?_
    refine lv_lload hx hb dX11_isOn_55 (lv_at hl 5 rfl) ?_
    refine lv_lmul hx hb dX11_isOn_57 ?_
    refine lv_aload_n hx hb dX11_isOn_58 rfl (lv_at hl 2 rfl) ?_
    refine lv_iconst (v := (2 : Int32)) hx hb dX11_isOn_59 (by decide) ?_
    replace hf := xsCk_use hf
    obtain ⟨h10, hf⟩ := hf
    refine xl_mTwo C hP h10 dX11_isOn_60 ?_
    refine lv_i2l hx hb dX11_isOn_61 rfl ?_
    refine lv_lload hx hb dX11_isOn_62 (lv_at hl 5 rfl) ?_
    refine lv_lmul hx hb dX11_isOn_64 ?_
    replace hf := xsBd_use hf
    obtain ⟨o11, h12, hf⟩ := hf
    refine xs_calli hS (xs_runS (As := [.long a1, .long (((mTwo (0 : Int32).toNatClampNeg).toInt64) * a3), .long (((mTwo (2 : Int32).toNatClampNeg).toInt64) * a3)]) C (mX11_in l  h12) w_1573 w_1574 w_115 w_1575 hd_X11_in ⟨rfl, rfl, Nat.le_of_ble_eq_true rfl, Nat.le_of_ble_eq_true rfl, Nat.zero_le _, Nat.zero_le _⟩ hP hD hS hl.1 rfl (Nat.le_of_ble_eq_true rfl) dX11_isOn_65) (fun H locs hP hD hS => ?_)
    refine lv_if_eq (tgt := 108) hx hb dX11_isOn_68 (by decide) (fun c20 => ?_) (fun c20 => ?_)
    · replace hf := xsBr_t c20 hf
      refine lv_iconst (v := (0 : Int32)) hx hb dX11_isOn_108 (by decide) ?_
      have ho := Option.some.inj hf
      subst ho
      rw [hQq]
      exact xs_zret C hr hlk xsB_0 hP hD hS dX11_isOn_109
    · replace hf := xsBr_f c20 hf
      refine lv_lload_n hx hb dX11_isOn_71 rfl (lv_at hl 4 rfl) ?_
      refine lv_aload_n hx hb dX11_isOn_72 rfl (lv_at hl 2 rfl) ?_
      refine lv_iconst (v := (1 : Int32)) hx hb dX11_isOn_73 (by decide) ?_
      replace hf := xsCk_use hf
      obtain ⟨h13, hf⟩ := hf
      refine xl_mTwo C hP h13 dX11_isOn_74 ?_
      refine lv_aload_n hx hb dX11_isOn_75 rfl (lv_at hl 2 rfl) ?_
      refine lv_iconst (v := (3 : Int32)) hx hb dX11_isOn_76 (by decide) ?_
      replace hf := xsCk_use hf
      obtain ⟨h14, hf⟩ := hf
      refine xl_mTwo C hP h14 dX11_isOn_77 ?_
      refine va_mmin hx hb (C.2.2.1.trans hl.1.symm) C.2.2.2.1 (xs_kts C _ w_1675) (xs_kts C _ w_525) (xs_kts C _ w_125) (xs_kts C _ w_526) (Nat.le_of_ble_eq_true rfl) (Nat.le_of_ble_eq_true rfl) (Nat.zero_le _) (Nat.zero_le _) dX11_isOn_78 ?_
      refine lv_i2l hx hb dX11_isOn_81 rfl ?_
      refine lv_lload hx hb dX11_isOn_82 (lv_at hl 5 rfl) ?_
      refine lv_lmul hx hb dX11_isOn_84 ?_
      refine lv_aload_n hx hb dX11_isOn_85 rfl (lv_at hl 2 rfl) ?_
      refine lv_iconst (v := (1 : Int32)) hx hb dX11_isOn_86 (by decide) ?_
      replace hf := xsCk_use hf
      obtain ⟨h15, hf⟩ := hf
      refine xl_mTwo C hP h15 dX11_isOn_87 ?_
      refine lv_aload_n hx hb dX11_isOn_88 rfl (lv_at hl 2 rfl) ?_
      refine lv_iconst (v := (3 : Int32)) hx hb dX11_isOn_89 (by decide) ?_
      replace hf := xsCk_use hf
      obtain ⟨h16, hf⟩ := hf
      refine xl_mTwo C hP h16 dX11_isOn_90 ?_
      refine va_mmax hx hb (C.2.2.1.trans hl.1.symm) C.2.2.2.1 (xs_kts C _ w_1676) (xs_kts C _ w_697) (xs_kts C _ w_125) (xs_kts C _ w_698) (Nat.le_of_ble_eq_true rfl) (Nat.le_of_ble_eq_true rfl) (Nat.zero_le _) (Nat.zero_le _) dX11_isOn_91 ?_
      refine lv_i2l hx hb dX11_isOn_94 rfl ?_
      refine lv_lload hx hb dX11_isOn_95 (lv_at hl 5 rfl) ?_
      refine lv_lmul hx hb dX11_isOn_97 ?_
      replace hf := xsBd_use hf
      obtain ⟨o17, h18, hf⟩ := hf
      refine xs_calli hS (xs_runS (As := [.long a2, .long (((if (mTwo (3 : Int32).toNatClampNeg) < (mTwo (1 : Int32).toNatClampNeg) then (mTwo (3 : Int32).toNatClampNeg) else (mTwo (1 : Int32).toNatClampNeg)).toInt64) * a3), .long (((if (mTwo (1 : Int32).toNatClampNeg) < (mTwo (3 : Int32).toNatClampNeg) then (mTwo (3 : Int32).toNatClampNeg) else (mTwo (1 : Int32).toNatClampNeg)).toInt64) * a3)]) C (mX11_in l  h18) w_1573 w_1574 w_115 w_1575 hd_X11_in ⟨rfl, rfl, Nat.le_of_ble_eq_true rfl, Nat.le_of_ble_eq_true rfl, Nat.zero_le _, Nat.zero_le _⟩ hP hD hS hl.1 rfl (Nat.le_of_ble_eq_true rfl) dX11_isOn_98) (fun H locs hP hD hS => ?_)
      refine lv_if_eq (tgt := 108) hx hb dX11_isOn_101 (by decide) (fun c19 => ?_) (fun c19 => ?_)
      · replace hf := xsBr_t c19 hf
        refine lv_iconst (v := (0 : Int32)) hx hb dX11_isOn_108 (by decide) ?_
        have ho := Option.some.inj hf
        subst ho
        rw [hQq]
        exact xs_zret C hr hlk xsB_0 hP hD hS dX11_isOn_109
      · replace hf := xsBr_f c19 hf
        refine lv_iconst (v := (1 : Int32)) hx hb dX11_isOn_104 (by decide) ?_
        refine lv_goto (tgt := 109) hx hb dX11_isOn_105 (by decide) ?_
        have ho := Option.some.inj hf
        subst ho
        rw [hQq]
        exact xs_zret C hr hlk xsB_1 hP hD hS dX11_isOn_109
  · replace hf := xsBr_f c21 hf
    refine lv_iconst (v := (0 : Int32)) hx hb dX11_isOn_48 (by decide) ?_
    have ho := Option.some.inj hf
    subst ho
    rw [hQq]
    exact xs_zret C hr hlk xsB_0 hP hD hS dX11_isOn_49
set_option maxRecDepth 100000 in
set_option maxHeartbeats 8000000 in
theorem mX11_shares (l : Launch) {X : xsX} {mThrown mRemembered mHasImage mIsLaid mEvents mCrossings mEdges mTaped mPoint mEnd mBegin mFaultAt mActs : Int32} {mWorld mImage mDraft mEarlier mOne mTwo mShare mCrossingOf mBundle mEventOf mDegree mFrom mTo mMet mTape mFive mTold mFar mViews mHullX mHullY mEndX mEndY mMeets mMeetsOf : Nat → Int32} {mX mY mD mHeightUp mHeightLow : Int64} {mEventX mEventY mEventD mUpper mLower : Nat → Int64} {Rw : va_W} {out : Int32 × (Nat → Int32) × Int64 × Int64 × Int64} (hf : fX11_shares mOne mTwo mShare mX mY mD = some out) : Met l yX11_shares (xsWs yX11_shares cX11_shares 21 (some .int)) { frames := 3, cells := 0, slots := 0, locals := 79 } (xsP X (wM X mThrown mWorld mImage mDraft mEarlier mRemembered mHasImage mIsLaid mOne mTwo mShare mX mY mD mEventX mEventY mEventD mEvents mCrossingOf mBundle mEventOf mDegree mFrom mTo mCrossings mEdges mMet mUpper mLower mTape mTaped mPoint mEnd mBegin mFaultAt mFive mTold mActs mFar mViews mHullX mHullY mEndX mEndY mHeightUp mHeightLow mMeets mMeetsOf Rw) [.ref (xsA X 100)]) (xsQi X out.1 (wM X mThrown mWorld mImage mDraft mEarlier mRemembered mHasImage mIsLaid mOne mTwo out.2.1 out.2.2.1 out.2.2.2.1 out.2.2.2.2 mEventX mEventY mEventD mEvents mCrossingOf mBundle mEventOf mDegree mFrom mTo mCrossings mEdges mMet mUpper mLower mTape mTaped mPoint mEnd mBegin mFaultAt mFive mTold mActs mFar mViews mHullX mHullY mEndX mEndY mHeightUp mHeightLow mMeets mMeetsOf Rw)) 0 0 (xsF X) := by
  refine xs_meth RX11 (by decide) rfl (Nat.le_of_ble_eq_true rfl) ?_
  intro p e s m below meth c ls H locs C hP hD hS hr hlk hl
  have hx := C.1
  have hb := C.2.1
  have hl : lv_has ls 21 [(0, .ref (xsA X 100))] := hl
  obtain ⟨Qq, hQq⟩ : ∃ Qq, Qq = xsQi X out.1 (wM X mThrown mWorld mImage mDraft mEarlier mRemembered mHasImage mIsLaid mOne mTwo out.2.1 out.2.2.1 out.2.2.2.1 out.2.2.2.2 mEventX mEventY mEventD mEvents mCrossingOf mBundle mEventOf mDegree mFrom mTo mCrossings mEdges mMet mUpper mLower mTape mTaped mPoint mEnd mBegin mFaultAt mFive mTold mActs mFar mViews mHullX mHullY mEndX mEndY mHeightUp mHeightLow mMeets mMeetsOf Rw) := ⟨_, rfl⟩
  rw [← hQq]
  unfold fX11_shares at hf
  refine lv_aload_n hx hb dX11_shares_0 rfl (lv_at hl 0 rfl) ?_
  refine xg_X11_26 C hP dX11_shares_1 ?_
  refine lv_iconst (v := (2 : Int32)) hx hb dX11_shares_4 (by decide) ?_
  replace hf := xsCk_use hf
  obtain ⟨h1, hf⟩ := hf
  refine xl_mOne C hP h1 dX11_shares_5 ?_
  refine lv_aload_n hx hb dX11_shares_6 rfl (lv_at hl 0 rfl) ?_
  refine xg_X11_26 C hP dX11_shares_7 ?_
  refine lv_iconst (v := (0 : Int32)) hx hb dX11_shares_10 (by decide) ?_
  replace hf := xsCk_use hf
  obtain ⟨h2, hf⟩ := hf
  refine xl_mOne C hP h2 dX11_shares_11 ?_
  refine lv_isub hx hb dX11_shares_12 ?_
  refine lv_i2l hx hb dX11_shares_13 rfl ?_
  refine lv_topl (fun x3 ex3 => ?_)
  replace hf := xsLt_use ex3 hf
  refine lv_lstore_n (lv' := [(1, .long x3), (0, .ref (xsA X 100))]) hx hb dX11_shares_14 rfl hl (by decide) rfl (fun ls hl => ?_)
  refine lv_aload_n hx hb dX11_shares_15 rfl (lv_at hl 1 rfl) ?_
  refine xg_X11_26 C hP dX11_shares_16 ?_
  refine lv_iconst (v := (3 : Int32)) hx hb dX11_shares_19 (by decide) ?_
  replace hf := xsCk_use hf
  obtain ⟨h4, hf⟩ := hf
  refine xl_mOne C hP h4 dX11_shares_20 ?_
  refine lv_aload_n hx hb dX11_shares_21 rfl (lv_at hl 1 rfl) ?_
  refine xg_X11_26 C hP dX11_shares_22 ?_
  refine lv_iconst (v := (1 : Int32)) hx hb dX11_shares_25 (by decide) ?_
  replace hf := xsCk_use hf
  obtain ⟨h5, hf⟩ := hf
  refine xl_mOne C hP h5 dX11_shares_26 ?_
  refine lv_isub hx hb dX11_shares_27 ?_
  refine lv_i2l hx hb dX11_shares_28 rfl ?_
  refine lv_topl (fun x6 ex6 => ?_)
  replace hf := xsLt_use ex6 hf
  refine lv_lstore_n (lv' := [(3, .long x6), (1, .long x3), (0, .ref (xsA X 100))]) hx hb dX11_shares_29 rfl hl (by decide) rfl (fun ls hl => ?_)
  refine lv_aload_n hx hb dX11_shares_30 rfl (lv_at hl 2 rfl) ?_
  refine xg_X11_29 C hP dX11_shares_31 ?_
  refine lv_iconst (v := (2 : Int32)) hx hb dX11_shares_34 (by decide) ?_
  replace hf := xsCk_use hf
  obtain ⟨h7, hf⟩ := hf
  refine xl_mTwo C hP h7 dX11_shares_35 ?_
  refine lv_aload_n hx hb dX11_shares_36 rfl (lv_at hl 2 rfl) ?_
  refine xg_X11_29 C hP dX11_shares_37 ?_
  refine lv_iconst (v := (0 : Int32)) hx hb dX11_shares_40 (by decide) ?_
  replace hf := xsCk_use hf
  obtain ⟨h8, hf⟩ := hf
  refine xl_mTwo C hP h8 dX11_shares_41 ?_
  refine lv_isub hx hb dX11_shares_42 ?_
  refine lv_i2l hx hb dX11_shares_43 rfl ?_
  refine lv_topl (fun x9 ex9 => ?_)
  replace hf := xsLt_use ex9 hf
  refine lv_lstore (lv' := [(5, .long x9), (3, .long x6), (1, .long x3), (0, .ref (xsA X 100))]) hx hb dX11_shares_44 hl (by decide) rfl (fun ls hl => ?_)
  refine lv_aload_n hx hb dX11_shares_46 rfl (lv_at hl 3 rfl) ?_
  refine xg_X11_29 C hP dX11_shares_47 ?_
  refine lv_iconst (v := (3 : Int32)) hx hb dX11_shares_50 (by decide) ?_
  replace hf := xsCk_use hf
  obtain ⟨h10, hf⟩ := hf
  refine xl_mTwo C hP h10 dX11_shares_51 ?_
  refine lv_aload_n hx hb dX11_shares_52 rfl (lv_at hl 3 rfl) ?_
  refine xg_X11_29 C hP dX11_shares_53 ?_
  refine lv_iconst (v := (1 : Int32)) hx hb dX11_shares_56 (by decide) ?_
  replace hf := xsCk_use hf
  obtain ⟨h11, hf⟩ := hf
  refine xl_mTwo C hP h11 dX11_shares_57 ?_
  refine lv_isub hx hb dX11_shares_58 ?_
  refine lv_i2l hx hb dX11_shares_59 rfl ?_
  refine lv_topl (fun x12 ex12 => ?_)
  replace hf := xsLt_use ex12 hf
  refine lv_lstore (lv' := [(7, .long x12), (5, .long x9), (3, .long x6), (1, .long x3), (0, .ref (xsA X 100))]) hx hb dX11_shares_60 hl (by decide) rfl (fun ls hl => ?_)
  refine lv_lload_n hx hb dX11_shares_62 rfl (lv_at hl 3 rfl) ?_
  refine lv_lload hx hb dX11_shares_63 (lv_at hl 0 rfl) ?_
  refine lv_lmul hx hb dX11_shares_65 ?_
  refine lv_lload_n hx hb dX11_shares_66 rfl (lv_at hl 2 rfl) ?_
  refine lv_lload hx hb dX11_shares_67 (lv_at hl 1 rfl) ?_
  refine lv_lmul hx hb dX11_shares_69 ?_
  refine lv_lsub hx hb dX11_shares_70 ?_
  refine lv_topl (fun x13 ex13 => ?_)
  replace hf := xsLt_use ex13 hf
  refine lv_lstore (lv' := [(9, .long x13), (7, .long x12), (5, .long x9), (3, .long x6), (1, .long x3), (0, .ref (xsA X 100))]) hx hb dX11_shares_71 hl (by decide) rfl (fun ls hl => ?_)
  refine lv_lload hx hb dX11_shares_73 (lv_at hl 0 rfl) ?_
  refine lv_lconst (v := (0 : Int64)) hx hb dX11_shares_75 (by decide) ?_
  refine xs_lcmp_ne (tgt := 196) C dX11_shares_76 dX11_shares_77 (by decide) (fun c61 => ?_) (fun c61 => ?_)
  · replace hf := xsBr_f c61 hf
    refine lv_aload_n hx hb dX11_shares_196 rfl (lv_at hl 5 rfl) ?_
    refine xg_X11_29 C hP dX11_shares_197 ?_
    refine lv_iconst (v := (0 : Int32)) hx hb dX11_shares_200 (by decide) ?_
    replace hf := xsCk_use hf
    obtain ⟨h14, hf⟩ := hf
    refine xl_mTwo C hP h14 dX11_shares_201 ?_
    refine lv_aload_n hx hb dX11_shares_202 rfl (lv_at hl 5 rfl) ?_
    refine xg_X11_26 C hP dX11_shares_203 ?_
    refine lv_iconst (v := (0 : Int32)) hx hb dX11_shares_206 (by decide) ?_
    replace hf := xsCk_use hf
    obtain ⟨h15, hf⟩ := hf
    refine xl_mOne C hP h15 dX11_shares_207 ?_
    refine lv_isub hx hb dX11_shares_208 ?_
    refine lv_i2l hx hb dX11_shares_209 rfl ?_
    refine lv_topl (fun x16 ex16 => ?_)
    replace hf := xsLt_use ex16 hf
    refine lv_lstore (lv' := [(11, .long x16), (9, .long x13), (7, .long x12), (5, .long x9), (3, .long x6), (1, .long x3), (0, .ref (xsA X 100))]) hx hb dX11_shares_210 hl (by decide) rfl (fun ls hl => ?_)
    refine lv_aload_n hx hb dX11_shares_212 rfl (lv_at hl 6 rfl) ?_
    refine xg_X11_29 C hP dX11_shares_213 ?_
    refine lv_iconst (v := (1 : Int32)) hx hb dX11_shares_216 (by decide) ?_
    replace hf := xsCk_use hf
    obtain ⟨h17, hf⟩ := hf
    refine xl_mTwo C hP h17 dX11_shares_217 ?_
    refine lv_aload_n hx hb dX11_shares_218 rfl (lv_at hl 6 rfl) ?_
    refine xg_X11_26 C hP dX11_shares_219 ?_
    refine lv_iconst (v := (1 : Int32)) hx hb dX11_shares_222 (by decide) ?_
    replace hf := xsCk_use hf
    obtain ⟨h18, hf⟩ := hf
    refine xl_mOne C hP h18 dX11_shares_223 ?_
    refine lv_isub hx hb dX11_shares_224 ?_
    refine lv_i2l hx hb dX11_shares_225 rfl ?_
    refine lv_topl (fun x19 ex19 => ?_)
    replace hf := xsLt_use ex19 hf
    refine lv_lstore (lv' := [(13, .long x19), (11, .long x16), (9, .long x13), (7, .long x12), (5, .long x9), (3, .long x6), (1, .long x3), (0, .ref (xsA X 100))]) hx hb dX11_shares_226 hl (by decide) rfl (fun ls hl => ?_)
    refine lv_lload hx hb dX11_shares_228 (lv_at hl 1 rfl) ?_
    refine lv_lload hx hb dX11_shares_230 (lv_at hl 3 rfl) ?_
    refine lv_lmul hx hb dX11_shares_232 ?_
    refine lv_lload hx hb dX11_shares_233 (lv_at hl 0 rfl) ?_
    refine lv_lload hx hb dX11_shares_235 (lv_at hl 4 rfl) ?_
    refine lv_lmul hx hb dX11_shares_237 ?_
    refine lv_lsub hx hb dX11_shares_238 ?_
    refine lv_topl (fun x20 ex20 => ?_)
    replace hf := xsLt_use ex20 hf
    refine lv_lstore (lv' := [(15, .long x20), (13, .long x19), (11, .long x16), (9, .long x13), (7, .long x12), (5, .long x9), (3, .long x6), (1, .long x3), (0, .ref (xsA X 100))]) hx hb dX11_shares_239 hl (by decide) rfl (fun ls hl => ?_)
    refine lv_lload hx hb dX11_shares_241 (lv_at hl 2 rfl) ?_
    refine lv_lload_n hx hb dX11_shares_243 rfl (lv_at hl 6 rfl) ?_
    refine lv_lmul hx hb dX11_shares_244 ?_
    refine lv_lload hx hb dX11_shares_245 (lv_at hl 1 rfl) ?_
    refine lv_lload_n hx hb dX11_shares_247 rfl (lv_at hl 7 rfl) ?_
    refine lv_lmul hx hb dX11_shares_248 ?_
    refine lv_lsub hx hb dX11_shares_249 ?_
    refine lv_topl (fun x21 ex21 => ?_)
    replace hf := xsLt_use ex21 hf
    refine lv_lstore (lv' := [(17, .long x21), (15, .long x20), (13, .long x19), (11, .long x16), (9, .long x13), (7, .long x12), (5, .long x9), (3, .long x6), (1, .long x3), (0, .ref (xsA X 100))]) hx hb dX11_shares_250 hl (by decide) rfl (fun ls hl => ?_)
    refine lv_lload hx hb dX11_shares_252 (lv_at hl 4 rfl) ?_
    refine lv_lconst (v := (0 : Int64)) hx hb dX11_shares_254 (by decide) ?_
    have K35 : ∀ (y22 : Int64) (hf : fX11_shares_J266 mOne mShare mX mY mD x3 x6 x13 x20 x21 y22 = some out) (H : Heap) (locs : List Loc) (ls : Array Slot), va_P (xsD X) vwCl (wM X mThrown mWorld mImage mDraft mEarlier mRemembered mHasImage mIsLaid mOne mTwo mShare mX mY mD mEventX mEventY mEventD mEvents mCrossingOf mBundle mEventOf mDegree mFrom mTo mCrossings mEdges mMet mUpper mLower mTape mTaped mPoint mEnd mBegin mFaultAt mFive mTold mActs mFar mViews mHullX mHullY mEndX mEndY mHeightUp mHeightLow mMeets mMeetsOf Rw) H → va_D (xsF X) (wM X mThrown mWorld mImage mDraft mEarlier mRemembered mHasImage mIsLaid mOne mTwo mShare mX mY mD mEventX mEventY mEventD mEvents mCrossingOf mBundle mEventOf mDegree mFrom mTo mCrossings mEdges mMet mUpper mLower mTape mTaped mPoint mEnd mBegin mFaultAt mFive mTold mActs mFar mViews mHullX mHullY mEndX mEndY mHeightUp mHeightLow mMeets mMeetsOf Rw) → va_S (xsF X) s.heap H locs → lv_has ls 21 [(0, .ref (xsA X 100)), (1, .long x3), (3, .long x6), (9, .long x13), (15, .long x20), (17, .long x21)] → W p l e { frames := 3, cells := 0, slots := 0, locals := 79 } s m ([.ref (xsA X 100)] : List Value).toArray below meth c H locs 0 0 (MQ below Qq ([.ref (xsA X 100)] : List Value).toArray s 0 0 (xsF X)) (F0 m 266 ls [.long y22]) := by
      intro y22 hf H locs ls hP hD hS hl
      unfold fX11_shares_J266 at hf
      refine lv_lstore (lv' := [(19, .long y22), (0, .ref (xsA X 100)), (1, .long x3), (3, .long x6), (9, .long x13), (15, .long x20), (17, .long x21)]) hx hb dX11_shares_266 hl (by decide) rfl (fun ls hl => ?_)
      refine lv_lload hx hb dX11_shares_268 (lv_at hl 0 rfl) ?_
      refine lv_lload hx hb dX11_shares_270 (lv_at hl 5 rfl) ?_
      refine lv_lmul hx hb dX11_shares_272 ?_
      refine lv_lconst (v := (0 : Int64)) hx hb dX11_shares_273 (by decide) ?_
      refine lv_lload hx hb dX11_shares_274 (lv_at hl 0 rfl) ?_
      refine lv_lload hx hb dX11_shares_276 (lv_at hl 4 rfl) ?_
      refine lv_lmul hx hb dX11_shares_278 ?_
      replace hf := xsBd_use hf
      obtain ⟨o23, h24, hf⟩ := hf
      refine xs_calli hS (xs_runS (As := [.long (y22 * x20), .long (0 : Int64), .long (y22 * x13)]) C (mX11_in l  h24) w_1573 w_1574 w_115 w_1575 hd_X11_in ⟨rfl, rfl, Nat.le_of_ble_eq_true rfl, Nat.le_of_ble_eq_true rfl, Nat.zero_le _, Nat.zero_le _⟩ hP hD hS hl.1 rfl (Nat.le_of_ble_eq_true rfl) dX11_shares_279) (fun H locs hP hD hS => ?_)
      refine lv_if_eq (tgt := 302) hx hb dX11_shares_282 (by decide) (fun c32 => ?_) (fun c32 => ?_)
      · replace hf := xsBr_t c32 hf
        refine lv_iconst (v := (0 : Int32)) hx hb dX11_shares_302 (by decide) ?_
        have ho := Option.some.inj hf
        subst ho
        rw [hQq]
        exact xs_iret C hr hlk hP hD hS dX11_shares_303
      · replace hf := xsBr_f c32 hf
        refine lv_lload hx hb dX11_shares_285 (lv_at hl 0 rfl) ?_
        refine lv_lload hx hb dX11_shares_287 (lv_at hl 6 rfl) ?_
        refine lv_lmul hx hb dX11_shares_289 ?_
        refine lv_lconst (v := (0 : Int64)) hx hb dX11_shares_290 (by decide) ?_
        refine lv_lload hx hb dX11_shares_291 (lv_at hl 0 rfl) ?_
        refine lv_lload hx hb dX11_shares_293 (lv_at hl 4 rfl) ?_
        refine lv_lmul hx hb dX11_shares_295 ?_
        replace hf := xsBd_use hf
        obtain ⟨o25, h26, hf⟩ := hf
        refine xs_calli hS (xs_runS (As := [.long (y22 * x21), .long (0 : Int64), .long (y22 * x13)]) C (mX11_in l  h26) w_1573 w_1574 w_115 w_1575 hd_X11_in ⟨rfl, rfl, Nat.le_of_ble_eq_true rfl, Nat.le_of_ble_eq_true rfl, Nat.zero_le _, Nat.zero_le _⟩ hP hD hS hl.1 rfl (Nat.le_of_ble_eq_true rfl) dX11_shares_296) (fun H locs hP hD hS => ?_)
        refine lv_if_ne (tgt := 304) hx hb dX11_shares_299 (by decide) (fun c31 => ?_) (fun c31 => ?_)
        · replace hf := xsBr_f c31 hf
          refine lv_aload_n hx hb dX11_shares_304 rfl (lv_at hl 1 rfl) ?_
          refine lv_lload hx hb dX11_shares_305 (lv_at hl 0 rfl) ?_
          refine lv_aload_n hx hb dX11_shares_307 rfl (lv_at hl 1 rfl) ?_
          refine xg_X11_26 C hP dX11_shares_308 ?_
          refine lv_iconst (v := (0 : Int32)) hx hb dX11_shares_311 (by decide) ?_
          replace hf := xsCk_use hf
          obtain ⟨h27, hf⟩ := hf
          refine xl_mOne C hP h27 dX11_shares_312 ?_
          refine lv_i2l hx hb dX11_shares_313 rfl ?_
          refine lv_lload hx hb dX11_shares_314 (lv_at hl 4 rfl) ?_
          refine lv_lmul hx hb dX11_shares_316 ?_
          refine lv_lload hx hb dX11_shares_317 (lv_at hl 5 rfl) ?_
          refine lv_lload_n hx hb dX11_shares_319 rfl (lv_at hl 2 rfl) ?_
          refine lv_lmul hx hb dX11_shares_320 ?_
          refine lv_ladd hx hb dX11_shares_321 ?_
          refine lv_lmul hx hb dX11_shares_322 ?_
          refine lv_lload hx hb dX11_shares_323 (lv_at hl 0 rfl) ?_
          refine lv_aload_n hx hb dX11_shares_325 rfl (lv_at hl 1 rfl) ?_
          refine xg_X11_26 C hP dX11_shares_326 ?_
          refine lv_iconst (v := (1 : Int32)) hx hb dX11_shares_329 (by decide) ?_
          replace hf := xsCk_use hf
          obtain ⟨h28, hf⟩ := hf
          refine xl_mOne C hP h28 dX11_shares_330 ?_
          refine lv_i2l hx hb dX11_shares_331 rfl ?_
          refine lv_lload hx hb dX11_shares_332 (lv_at hl 4 rfl) ?_
          refine lv_lmul hx hb dX11_shares_334 ?_
          refine lv_lload hx hb dX11_shares_335 (lv_at hl 5 rfl) ?_
          refine lv_lload_n hx hb dX11_shares_337 rfl (lv_at hl 3 rfl) ?_
          refine lv_lmul hx hb dX11_shares_338 ?_
          refine lv_ladd hx hb dX11_shares_339 ?_
          refine lv_lmul hx hb dX11_shares_340 ?_
          refine lv_lload hx hb dX11_shares_341 (lv_at hl 0 rfl) ?_
          refine lv_lload hx hb dX11_shares_343 (lv_at hl 4 rfl) ?_
          refine lv_lmul hx hb dX11_shares_345 ?_
          replace hf := xsBd_use hf
          obtain ⟨o29, h30, hf⟩ := hf
          refine xs_calli hS (xs_runV (As := [.long (y22 * ((((mOne (0 : Int32).toNatClampNeg).toInt64) * x13) + (x20 * x3))), .long (y22 * ((((mOne (1 : Int32).toNatClampNeg).toInt64) * x13) + (x20 * x6))), .long (y22 * x13)]) C (mX11_sharesPoint l  h30) w_1677 w_1679 w_61 w_115 w_1680 hd_X11_sharesPoint ⟨rfl, rfl, Nat.le_of_ble_eq_true rfl, Nat.le_of_ble_eq_true rfl, Nat.zero_le _, Nat.zero_le _⟩ hP hD hS lk_X11 rfl hl.1 rfl (Nat.le_of_ble_eq_true rfl) dX11_shares_346) (fun H locs hP hD hS => ?_)
          have ho := Option.some.inj hf
          subst ho
          rw [hQq]
          exact xs_iret C hr hlk hP hD hS dX11_shares_349
        · replace hf := xsBr_t c31 hf
          refine lv_iconst (v := (0 : Int32)) hx hb dX11_shares_302 (by decide) ?_
          have ho := Option.some.inj hf
          subst ho
          rw [hQq]
          exact xs_iret C hr hlk hP hD hS dX11_shares_303
    replace hf := xsBd_use hf
    obtain ⟨v33, hf, hk34⟩ := hf
    refine xs_lcmp_ge (tgt := 265) C dX11_shares_255 dX11_shares_256 (by decide) (fun c36 => ?_) (fun c36 => ?_)
    · replace hf := xsBr_t c36 hf
      refine lv_lconst (v := (1 : Int64)) hx hb dX11_shares_265 (by decide) ?_
      have ev := Option.some.inj hf
      subst ev
      exact K35 (1 : Int64) hk34 H locs ls hP hD hS (lv_sub hl [9, 8, 7, 4, 1, 0] rfl)
    · replace hf := xsBr_f c36 hf
      refine lv_ldc2 (v := (-1 : Int64)) hx hb C.2.2.2.1 (xs_kts C _ w_1691) dX11_shares_259 ?_
      refine lv_goto (tgt := 266) hx hb dX11_shares_262 (by decide) ?_
      have ev := Option.some.inj hf
      subst ev
      exact K35 (-1 : Int64) hk34 H locs ls hP hD hS (lv_sub hl [9, 8, 7, 4, 1, 0] rfl)
  · replace hf := xsBr_t c61 hf
    refine lv_aload_n hx hb dX11_shares_80 rfl (lv_at hl 5 rfl) ?_
    refine xg_X11_26 C hP dX11_shares_81 ?_
    replace hf := xsBd_use hf
    obtain ⟨o37, h38, hf⟩ := hf
    refine xs_calli hS (xs_runS (As := [.ref (xsA X 105)]) C (mX11_isMere_v1 l  h38) w_1669 w_1670 w_115 w_1671 hd_X11_isMere ⟨rfl, rfl, Nat.le_of_ble_eq_true rfl, Nat.le_of_ble_eq_true rfl, Nat.zero_le _, Nat.zero_le _⟩ hP hD hS hl.1 rfl (Nat.le_of_ble_eq_true rfl) dX11_shares_84) (fun H locs hP hD hS => ?_)
    refine lv_if_eq (tgt := 139) hx hb dX11_shares_87 (by decide) (fun c60 => ?_) (fun c60 => ?_)
    · replace hf := xsBr_t c60 hf
      refine lv_aload_n hx hb dX11_shares_139 rfl (lv_at hl 5 rfl) ?_
      refine xg_X11_29 C hP dX11_shares_140 ?_
      refine lv_iconst (v := (0 : Int32)) hx hb dX11_shares_143 (by decide) ?_
      replace hf := xsCk_use hf
      obtain ⟨h39, hf⟩ := hf
      refine xl_mTwo C hP h39 dX11_shares_144 ?_
      refine lv_aload_n hx hb dX11_shares_145 rfl (lv_at hl 5 rfl) ?_
      refine xg_X11_26 C hP dX11_shares_146 ?_
      refine lv_iconst (v := (0 : Int32)) hx hb dX11_shares_149 (by decide) ?_
      replace hf := xsCk_use hf
      obtain ⟨h40, hf⟩ := hf
      refine xl_mOne C hP h40 dX11_shares_150 ?_
      refine lv_isub hx hb dX11_shares_151 ?_
      refine lv_i2l hx hb dX11_shares_152 rfl ?_
      refine lv_lload_n hx hb dX11_shares_153 rfl (lv_at hl 3 rfl) ?_
      refine lv_lmul hx hb dX11_shares_154 ?_
      refine lv_aload_n hx hb dX11_shares_155 rfl (lv_at hl 5 rfl) ?_
      refine xg_X11_29 C hP dX11_shares_156 ?_
      refine lv_iconst (v := (1 : Int32)) hx hb dX11_shares_159 (by decide) ?_
      replace hf := xsCk_use hf
      obtain ⟨h41, hf⟩ := hf
      refine xl_mTwo C hP h41 dX11_shares_160 ?_
      refine lv_aload_n hx hb dX11_shares_161 rfl (lv_at hl 5 rfl) ?_
      refine xg_X11_26 C hP dX11_shares_162 ?_
      refine lv_iconst (v := (1 : Int32)) hx hb dX11_shares_165 (by decide) ?_
      replace hf := xsCk_use hf
      obtain ⟨h42, hf⟩ := hf
      refine xl_mOne C hP h42 dX11_shares_166 ?_
      refine lv_isub hx hb dX11_shares_167 ?_
      refine lv_i2l hx hb dX11_shares_168 rfl ?_
      refine lv_lload_n hx hb dX11_shares_169 rfl (lv_at hl 4 rfl) ?_
      refine lv_lmul hx hb dX11_shares_170 ?_
      have K49 : ∀ (y43 : Int32) (hf : fX11_shares_J180 mOne mTwo mShare mX mY mD y43 = some out) (H : Heap) (locs : List Loc) (ls : Array Slot), va_P (xsD X) vwCl (wM X mThrown mWorld mImage mDraft mEarlier mRemembered mHasImage mIsLaid mOne mTwo mShare mX mY mD mEventX mEventY mEventD mEvents mCrossingOf mBundle mEventOf mDegree mFrom mTo mCrossings mEdges mMet mUpper mLower mTape mTaped mPoint mEnd mBegin mFaultAt mFive mTold mActs mFar mViews mHullX mHullY mEndX mEndY mHeightUp mHeightLow mMeets mMeetsOf Rw) H → va_D (xsF X) (wM X mThrown mWorld mImage mDraft mEarlier mRemembered mHasImage mIsLaid mOne mTwo mShare mX mY mD mEventX mEventY mEventD mEvents mCrossingOf mBundle mEventOf mDegree mFrom mTo mCrossings mEdges mMet mUpper mLower mTape mTaped mPoint mEnd mBegin mFaultAt mFive mTold mActs mFar mViews mHullX mHullY mEndX mEndY mHeightUp mHeightLow mMeets mMeetsOf Rw) → va_S (xsF X) s.heap H locs → lv_has ls 21 [(0, .ref (xsA X 100))] → W p l e { frames := 3, cells := 0, slots := 0, locals := 79 } s m ([.ref (xsA X 100)] : List Value).toArray below meth c H locs 0 0 (MQ below Qq ([.ref (xsA X 100)] : List Value).toArray s 0 0 (xsF X)) (F0 m 180 ls [.int y43]) := by
        intro y43 hf H locs ls hP hD hS hl
        unfold fX11_shares_J180 at hf
        refine lv_istore (lv' := [(11, .int y43), (0, .ref (xsA X 100))]) hx hb dX11_shares_180 hl (by decide) rfl (fun ls hl => ?_)
        refine lv_iload hx hb dX11_shares_182 (lv_at hl 0 rfl) ?_
        refine lv_if_eq (tgt := 194) hx hb dX11_shares_184 (by decide) (fun c46 => ?_) (fun c46 => ?_)
        · replace hf := xsBr_t c46 hf
          refine lv_iconst (v := (0 : Int32)) hx hb dX11_shares_194 (by decide) ?_
          have ho := Option.some.inj hf
          subst ho
          rw [hQq]
          exact xs_iret C hr hlk hP hD hS dX11_shares_195
        · replace hf := xsBr_f c46 hf
          refine lv_aload_n hx hb dX11_shares_187 rfl (lv_at hl 1 rfl) ?_
          replace hf := xsBd_use hf
          obtain ⟨o44, h45, hf⟩ := hf
          refine xs_calli hS (xs_runV (As := []) C (mX11_sharesLine l  h45) w_1684 w_1686 w_62 w_115 w_1687 hd_X11_sharesLine ⟨rfl, rfl, Nat.le_of_ble_eq_true rfl, Nat.le_of_ble_eq_true rfl, Nat.zero_le _, Nat.zero_le _⟩ hP hD hS lk_X11 rfl hl.1 rfl (Nat.le_of_ble_eq_true rfl) dX11_shares_188) (fun H locs hP hD hS => ?_)
          refine lv_goto (tgt := 195) hx hb dX11_shares_191 (by decide) ?_
          have ho := Option.some.inj hf
          subst ho
          rw [hQq]
          exact xs_iret C hr hlk hP hD hS dX11_shares_195
      replace hf := xsBd_use hf
      obtain ⟨v47, hf, hk48⟩ := hf
      refine xs_lcmp_ne (tgt := 179) C dX11_shares_171 dX11_shares_172 (by decide) (fun c50 => ?_) (fun c50 => ?_)
      · replace hf := xsBr_f c50 hf
        refine lv_iconst (v := (0 : Int32)) hx hb dX11_shares_179 (by decide) ?_
        have ev := Option.some.inj hf
        subst ev
        exact K49 (0 : Int32) hk48 H locs ls hP hD hS (lv_sub hl [5] rfl)
      · replace hf := xsBr_t c50 hf
        refine lv_iconst (v := (1 : Int32)) hx hb dX11_shares_175 (by decide) ?_
        refine lv_goto (tgt := 180) hx hb dX11_shares_176 (by decide) ?_
        have ev := Option.some.inj hf
        subst ev
        exact K49 (1 : Int32) hk48 H locs ls hP hD hS (lv_sub hl [5] rfl)
    · replace hf := xsBr_f c60 hf
      refine lv_aload_n hx hb dX11_shares_90 rfl (lv_at hl 5 rfl) ?_
      refine xg_X11_29 C hP dX11_shares_91 ?_
      refine lv_aload_n hx hb dX11_shares_94 rfl (lv_at hl 5 rfl) ?_
      refine xg_X11_26 C hP dX11_shares_95 ?_
      refine lv_iconst (v := (0 : Int32)) hx hb dX11_shares_98 (by decide) ?_
      replace hf := xsCk_use hf
      obtain ⟨h51, hf⟩ := hf
      refine xl_mOne C hP h51 dX11_shares_99 ?_
      refine lv_i2l hx hb dX11_shares_100 rfl ?_
      refine lv_aload_n hx hb dX11_shares_101 rfl (lv_at hl 5 rfl) ?_
      refine xg_X11_26 C hP dX11_shares_102 ?_
      refine lv_iconst (v := (1 : Int32)) hx hb dX11_shares_105 (by decide) ?_
      replace hf := xsCk_use hf
      obtain ⟨h52, hf⟩ := hf
      refine xl_mOne C hP h52 dX11_shares_106 ?_
      refine lv_i2l hx hb dX11_shares_107 rfl ?_
      refine lv_lconst (v := (1 : Int64)) hx hb dX11_shares_108 (by decide) ?_
      replace hf := xsBd_use hf
      obtain ⟨o53, h54, hf⟩ := hf
      refine xs_calli hS (xs_runS (As := [.ref (xsA X 106), .long (mOne (0 : Int32).toNatClampNeg).toInt64, .long (mOne (1 : Int32).toNatClampNeg).toInt64, .long (1 : Int64)]) C (mX11_isOn l  h54) w_1672 w_1673 w_115 w_1674 hd_X11_isOn ⟨rfl, rfl, Nat.le_of_ble_eq_true rfl, Nat.le_of_ble_eq_true rfl, Nat.zero_le _, Nat.zero_le _⟩ hP hD hS hl.1 rfl (Nat.le_of_ble_eq_true rfl) dX11_shares_109) (fun H locs hP hD hS => ?_)
      refine lv_if_eq (tgt := 137) hx hb dX11_shares_112 (by decide) (fun c59 => ?_) (fun c59 => ?_)
      · replace hf := xsBr_t c59 hf
        refine lv_iconst (v := (0 : Int32)) hx hb dX11_shares_137 (by decide) ?_
        have ho := Option.some.inj hf
        subst ho
        rw [hQq]
        exact xs_iret C hr hlk hP hD hS dX11_shares_138
      · replace hf := xsBr_f c59 hf
        refine lv_aload_n hx hb dX11_shares_115 rfl (lv_at hl 5 rfl) ?_
        refine lv_aload_n hx hb dX11_shares_116 rfl (lv_at hl 5 rfl) ?_
        refine xg_X11_26 C hP dX11_shares_117 ?_
        refine lv_iconst (v := (0 : Int32)) hx hb dX11_shares_120 (by decide) ?_
        replace hf := xsCk_use hf
        obtain ⟨h55, hf⟩ := hf
        refine xl_mOne C hP h55 dX11_shares_121 ?_
        refine lv_i2l hx hb dX11_shares_122 rfl ?_
        refine lv_aload_n hx hb dX11_shares_123 rfl (lv_at hl 5 rfl) ?_
        refine xg_X11_26 C hP dX11_shares_124 ?_
        refine lv_iconst (v := (1 : Int32)) hx hb dX11_shares_127 (by decide) ?_
        replace hf := xsCk_use hf
        obtain ⟨h56, hf⟩ := hf
        refine xl_mOne C hP h56 dX11_shares_128 ?_
        refine lv_i2l hx hb dX11_shares_129 rfl ?_
        refine lv_lconst (v := (1 : Int64)) hx hb dX11_shares_130 (by decide) ?_
        replace hf := xsBd_use hf
        obtain ⟨o57, h58, hf⟩ := hf
        refine xs_calli hS (xs_runV (As := [.long (mOne (0 : Int32).toNatClampNeg).toInt64, .long (mOne (1 : Int32).toNatClampNeg).toInt64, .long (1 : Int64)]) C (mX11_sharesPoint l  h58) w_1677 w_1679 w_61 w_115 w_1680 hd_X11_sharesPoint ⟨rfl, rfl, Nat.le_of_ble_eq_true rfl, Nat.le_of_ble_eq_true rfl, Nat.zero_le _, Nat.zero_le _⟩ hP hD hS lk_X11 rfl hl.1 rfl (Nat.le_of_ble_eq_true rfl) dX11_shares_131) (fun H locs hP hD hS => ?_)
        refine lv_goto (tgt := 138) hx hb dX11_shares_134 (by decide) ?_
        have ho := Option.some.inj hf
        subst ho
        rw [hQq]
        exact xs_iret C hr hlk hP hD hS dX11_shares_138
