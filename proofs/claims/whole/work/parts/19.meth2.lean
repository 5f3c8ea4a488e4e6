set_option maxRecDepth 100000 in
set_option maxHeartbeats 8000000 in
theorem mX4_tryNext (l : Launch) {X : xsX} {kIsKept kIsStale hiLatest hiSize scLength scFault scAt scNumber piSegmentsNow enKind enFromX enFromY enToX enToY tiMeetingPairs tiAlongPairs tiSize evSize evCrossings evSegmentsNow grEdges grQueued huSize huBestX huBestY : Int32} {scBytes scTold tiTouching tiLyingAlong evBundle evCrossingOf evEventOf evLeftEvent evRightEvent grDegree grFar grQueue huX huY : Nat → Int32} {enX enY enLower : Int64} {evX evY evLower : Nat → Int64} {S : Nat → xsV} {Rw : va_W} {a0 : Int32} {a1 : Int32} {a2 : Int32} {a3 : Int32} {out : Int32 × Int32} (hf : fX4_tryNext huBestX huBestY a0 a1 a2 a3 = some out) : Met l yX4_tryNext (xsWs yX4_tryNext cX4_tryNext 16 none) { frames := 1, cells := 0, slots := 0, locals := 24 } (xsP X (wK X kIsKept kIsStale hiLatest hiSize scBytes scTold scLength scFault scAt scNumber piSegmentsNow enKind enX enY enLower enFromX enFromY enToX enToY tiTouching tiLyingAlong tiMeetingPairs tiAlongPairs tiSize evX evY evLower evBundle evCrossingOf evEventOf evLeftEvent evRightEvent evSize evCrossings evSegmentsNow grDegree grEdges grFar grQueue grQueued huX huY huSize huBestX huBestY S Rw) [.ref (xsA X 24), .int a0, .int a1, .int a2, .int a3]) (xsQv X (wK X kIsKept kIsStale hiLatest hiSize scBytes scTold scLength scFault scAt scNumber piSegmentsNow enKind enX enY enLower enFromX enFromY enToX enToY tiTouching tiLyingAlong tiMeetingPairs tiAlongPairs tiSize evX evY evLower evBundle evCrossingOf evEventOf evLeftEvent evRightEvent evSize evCrossings evSegmentsNow grDegree grEdges grFar grQueue grQueued huX huY huSize out.1 out.2 S Rw)) 0 0 (xsF X) := by
  refine xs_meth RX4 (by decide) rfl (Nat.le_of_ble_eq_true rfl) ?_
  intro p e s m below meth c ls H locs C hP hD hS hr hlk hl
  have hx := C.1
  have hb := C.2.1
  have hl : lv_has ls 16 [(0, .ref (xsA X 24)), (1, .int a0), (2, .int a1), (3, .int a2), (4, .int a3)] := hl
  obtain ⟨Qq, hQq⟩ : ∃ Qq, Qq = xsQv X (wK X kIsKept kIsStale hiLatest hiSize scBytes scTold scLength scFault scAt scNumber piSegmentsNow enKind enX enY enLower enFromX enFromY enToX enToY tiTouching tiLyingAlong tiMeetingPairs tiAlongPairs tiSize evX evY evLower evBundle evCrossingOf evEventOf evLeftEvent evRightEvent evSize evCrossings evSegmentsNow grDegree grEdges grFar grQueue grQueued huX huY huSize out.1 out.2 S Rw) := ⟨_, rfl⟩
  rw [← hQq]
  unfold fX4_tryNext at hf
  refine lv_aload_n hx hb dX4_tryNext_0 rfl (lv_at hl 0 rfl) ?_
  refine xg_X4_22 C hP dX4_tryNext_1 ?_
  refine lv_iload_n hx hb dX4_tryNext_4 rfl (lv_at hl 1 rfl) ?_
  refine lv_isub hx hb dX4_tryNext_5 ?_
  refine lv_i2l hx hb dX4_tryNext_6 rfl ?_
  refine lv_topl (fun x1 ex1 => ?_)
  replace hf := xsLt_use ex1 hf
  refine lv_lstore (lv' := [(5, .long x1), (0, .ref (xsA X 24)), (1, .int a0), (2, .int a1), (3, .int a2), (4, .int a3)]) hx hb dX4_tryNext_7 hl (by decide) rfl (fun ls hl => ?_)
  refine lv_aload_n hx hb dX4_tryNext_9 rfl (lv_at hl 1 rfl) ?_
  refine xg_X4_25 C hP dX4_tryNext_10 ?_
  refine lv_iload_n hx hb dX4_tryNext_13 rfl (lv_at hl 3 rfl) ?_
  refine lv_isub hx hb dX4_tryNext_14 ?_
  refine lv_i2l hx hb dX4_tryNext_15 rfl ?_
  refine lv_topl (fun x2 ex2 => ?_)
  replace hf := xsLt_use ex2 hf
  refine lv_lstore (lv' := [(7, .long x2), (5, .long x1), (0, .ref (xsA X 24)), (1, .int a0), (2, .int a1), (3, .int a2), (4, .int a3)]) hx hb dX4_tryNext_16 hl (by decide) rfl (fun ls hl => ?_)
  refine lv_iload_n hx hb dX4_tryNext_18 rfl (lv_at hl 5 rfl) ?_
  refine lv_iload_n hx hb dX4_tryNext_19 rfl (lv_at hl 3 rfl) ?_
  refine lv_isub hx hb dX4_tryNext_20 ?_
  refine lv_i2l hx hb dX4_tryNext_21 rfl ?_
  refine lv_topl (fun x3 ex3 => ?_)
  replace hf := xsLt_use ex3 hf
  refine lv_lstore (lv' := [(9, .long x3), (7, .long x2), (5, .long x1), (0, .ref (xsA X 24)), (1, .int a0), (2, .int a1), (3, .int a2), (4, .int a3)]) hx hb dX4_tryNext_22 hl (by decide) rfl (fun ls hl => ?_)
  refine lv_iload hx hb dX4_tryNext_24 (lv_at hl 7 rfl) ?_
  refine lv_iload_n hx hb dX4_tryNext_26 rfl (lv_at hl 5 rfl) ?_
  refine lv_isub hx hb dX4_tryNext_27 ?_
  refine lv_i2l hx hb dX4_tryNext_28 rfl ?_
  refine lv_topl (fun x4 ex4 => ?_)
  replace hf := xsLt_use ex4 hf
  refine lv_lstore (lv' := [(11, .long x4), (9, .long x3), (7, .long x2), (5, .long x1), (0, .ref (xsA X 24)), (1, .int a0), (2, .int a1), (3, .int a2), (4, .int a3)]) hx hb dX4_tryNext_29 hl (by decide) rfl (fun ls hl => ?_)
  refine lv_lload hx hb dX4_tryNext_31 (lv_at hl 3 rfl) ?_
  refine lv_lload hx hb dX4_tryNext_33 (lv_at hl 0 rfl) ?_
  refine lv_lmul hx hb dX4_tryNext_35 ?_
  refine lv_lload hx hb dX4_tryNext_36 (lv_at hl 2 rfl) ?_
  refine lv_lload hx hb dX4_tryNext_38 (lv_at hl 1 rfl) ?_
  refine lv_lmul hx hb dX4_tryNext_40 ?_
  refine lv_lsub hx hb dX4_tryNext_41 ?_
  refine lv_topl (fun x5 ex5 => ?_)
  replace hf := xsLt_use ex5 hf
  refine lv_lstore (lv' := [(13, .long x5), (11, .long x4), (9, .long x3), (7, .long x2), (5, .long x1), (0, .ref (xsA X 24)), (1, .int a0), (2, .int a1), (3, .int a2), (4, .int a3)]) hx hb dX4_tryNext_42 hl (by decide) rfl (fun ls hl => ?_)
  refine lv_lload hx hb dX4_tryNext_44 (lv_at hl 2 rfl) ?_
  refine va_mabs_long hx hb (C.2.2.1.trans hl.1.symm) C.2.2.2.1 (xs_kts C _ w_762) (xs_kts C _ w_763) (xs_kts C _ w_125) (xs_kts C _ w_764) (Nat.le_of_ble_eq_true rfl) (Nat.le_of_ble_eq_true rfl) (Nat.zero_le _) (Nat.zero_le _) dX4_tryNext_46 ?_
  refine lv_lload hx hb dX4_tryNext_49 (lv_at hl 1 rfl) ?_
  refine va_mabs_long hx hb (C.2.2.1.trans hl.1.symm) C.2.2.2.1 (xs_kts C _ w_762) (xs_kts C _ w_763) (xs_kts C _ w_125) (xs_kts C _ w_764) (Nat.le_of_ble_eq_true rfl) (Nat.le_of_ble_eq_true rfl) (Nat.zero_le _) (Nat.zero_le _) dX4_tryNext_51 ?_
  refine lv_ladd hx hb dX4_tryNext_54 ?_
  refine lv_lload hx hb dX4_tryNext_55 (lv_at hl 4 rfl) ?_
  refine va_mabs_long hx hb (C.2.2.1.trans hl.1.symm) C.2.2.2.1 (xs_kts C _ w_762) (xs_kts C _ w_763) (xs_kts C _ w_125) (xs_kts C _ w_764) (Nat.le_of_ble_eq_true rfl) (Nat.le_of_ble_eq_true rfl) (Nat.zero_le _) (Nat.zero_le _) dX4_tryNext_57 ?_
  refine lv_lload hx hb dX4_tryNext_60 (lv_at hl 3 rfl) ?_
  refine va_mabs_long hx hb (C.2.2.1.trans hl.1.symm) C.2.2.2.1 (xs_kts C _ w_762) (xs_kts C _ w_763) (xs_kts C _ w_125) (xs_kts C _ w_764) (Nat.le_of_ble_eq_true rfl) (Nat.le_of_ble_eq_true rfl) (Nat.zero_le _) (Nat.zero_le _) dX4_tryNext_62 ?_
  refine lv_ladd hx hb dX4_tryNext_65 ?_
  have K13 : ∀ (y6 : Int32) (hf : fX4_tryNext_J75 huBestX huBestY a2 a3 x5 y6 = some out) (H : Heap) (locs : List Loc) (ls : Array Slot), va_P (xsD X) vwCl (wK X kIsKept kIsStale hiLatest hiSize scBytes scTold scLength scFault scAt scNumber piSegmentsNow enKind enX enY enLower enFromX enFromY enToX enToY tiTouching tiLyingAlong tiMeetingPairs tiAlongPairs tiSize evX evY evLower evBundle evCrossingOf evEventOf evLeftEvent evRightEvent evSize evCrossings evSegmentsNow grDegree grEdges grFar grQueue grQueued huX huY huSize huBestX huBestY S Rw) H → va_D (xsF X) (wK X kIsKept kIsStale hiLatest hiSize scBytes scTold scLength scFault scAt scNumber piSegmentsNow enKind enX enY enLower enFromX enFromY enToX enToY tiTouching tiLyingAlong tiMeetingPairs tiAlongPairs tiSize evX evY evLower evBundle evCrossingOf evEventOf evLeftEvent evRightEvent evSize evCrossings evSegmentsNow grDegree grEdges grFar grQueue grQueued huX huY huSize huBestX huBestY S Rw) → va_S (xsF X) s.heap H locs → lv_has ls 16 [(0, .ref (xsA X 24)), (3, .int a2), (4, .int a3), (13, .long x5)] → W p l e { frames := 1, cells := 0, slots := 0, locals := 24 } s m ([.ref (xsA X 24), .int a0, .int a1, .int a2, .int a3] : List Value).toArray below meth c H locs 0 0 (MQ below Qq ([.ref (xsA X 24), .int a0, .int a1, .int a2, .int a3] : List Value).toArray s 0 0 (xsF X)) (F0 m 75 ls [.int y6]) := by
    intro y6 hf H locs ls hP hD hS hl
    unfold fX4_tryNext_J75 at hf
    refine lv_istore (lv' := [(15, .int y6), (0, .ref (xsA X 24)), (3, .int a2), (4, .int a3), (13, .long x5)]) hx hb dX4_tryNext_75 hl (by decide) rfl (fun ls hl => ?_)
    refine lv_lload hx hb dX4_tryNext_77 (lv_at hl 4 rfl) ?_
    refine lv_lconst (v := (0 : Int64)) hx hb dX4_tryNext_79 (by decide) ?_
    have K7 : ∀ (hf : fX4_tryNext_J96 a2 a3 = some out) (H : Heap) (locs : List Loc) (ls : Array Slot), va_P (xsD X) vwCl (wK X kIsKept kIsStale hiLatest hiSize scBytes scTold scLength scFault scAt scNumber piSegmentsNow enKind enX enY enLower enFromX enFromY enToX enToY tiTouching tiLyingAlong tiMeetingPairs tiAlongPairs tiSize evX evY evLower evBundle evCrossingOf evEventOf evLeftEvent evRightEvent evSize evCrossings evSegmentsNow grDegree grEdges grFar grQueue grQueued huX huY huSize huBestX huBestY S Rw) H → va_D (xsF X) (wK X kIsKept kIsStale hiLatest hiSize scBytes scTold scLength scFault scAt scNumber piSegmentsNow enKind enX enY enLower enFromX enFromY enToX enToY tiTouching tiLyingAlong tiMeetingPairs tiAlongPairs tiSize evX evY evLower evBundle evCrossingOf evEventOf evLeftEvent evRightEvent evSize evCrossings evSegmentsNow grDegree grEdges grFar grQueue grQueued huX huY huSize huBestX huBestY S Rw) → va_S (xsF X) s.heap H locs → lv_has ls 16 [(0, .ref (xsA X 24)), (3, .int a2), (4, .int a3)] → W p l e { frames := 1, cells := 0, slots := 0, locals := 24 } s m ([.ref (xsA X 24), .int a0, .int a1, .int a2, .int a3] : List Value).toArray below meth c H locs 0 0 (MQ below Qq ([.ref (xsA X 24), .int a0, .int a1, .int a2, .int a3] : List Value).toArray s 0 0 (xsF X)) (F0 m 96 ls []) := by
      intro hf H locs ls hP hD hS hl
      unfold fX4_tryNext_J96 at hf
      refine lv_aload_n hx hb dX4_tryNext_96 rfl (lv_at hl 0 rfl) ?_
      refine lv_iload_n hx hb dX4_tryNext_97 rfl (lv_at hl 1 rfl) ?_
      refine xp_X4_22 C hP hD hS dX4_tryNext_98 (fun H locs hP hD hS => ?_)
      refine lv_aload_n hx hb dX4_tryNext_101 rfl (lv_at hl 0 rfl) ?_
      refine lv_iload hx hb dX4_tryNext_102 (lv_at hl 2 rfl) ?_
      refine xp_X4_25 C hP hD hS dX4_tryNext_104 (fun H locs hP hD hS => ?_)
      have ho := Option.some.inj hf
      subst ho
      rw [hQq]
      exact xs_vret C hr hlk hP hD hS dX4_tryNext_107
    refine xs_lcmp_lt (tgt := 96) C dX4_tryNext_80 dX4_tryNext_81 (by decide) (fun c10 => ?_) (fun c10 => ?_)
    · replace hf := xsBr_t c10 hf
      exact K7 hf H locs ls hP hD hS (lv_sub hl [1, 2, 3] rfl)
    · replace hf := xsBr_f c10 hf
      refine lv_lload hx hb dX4_tryNext_84 (lv_at hl 4 rfl) ?_
      refine lv_lconst (v := (0 : Int64)) hx hb dX4_tryNext_86 (by decide) ?_
      refine xs_lcmp_ne (tgt := 107) C dX4_tryNext_87 dX4_tryNext_88 (by decide) (fun c9 => ?_) (fun c9 => ?_)
      · replace hf := xsBr_f c9 hf
        have ho := Option.some.inj hf
        subst ho
        rw [hQq]
        exact xs_vret C hr hlk hP hD hS dX4_tryNext_107
      · replace hf := xsBr_t c9 hf
        refine lv_iload hx hb dX4_tryNext_91 (lv_at hl 0 rfl) ?_
        refine lv_if_eq (tgt := 107) hx hb dX4_tryNext_93 (by decide) (fun c8 => ?_) (fun c8 => ?_)
        · replace hf := xsBr_t c8 hf
          have ho := Option.some.inj hf
          subst ho
          rw [hQq]
          exact xs_vret C hr hlk hP hD hS dX4_tryNext_107
        · replace hf := xsBr_f c8 hf
          exact K7 hf H locs ls hP hD hS (lv_sub hl [1, 2, 3] rfl)
  replace hf := xsBd_use hf
  obtain ⟨v11, hf, hk12⟩ := hf
  refine xs_lcmp_le (tgt := 74) C dX4_tryNext_66 dX4_tryNext_67 (by decide) (fun c14 => ?_) (fun c14 => ?_)
  · replace hf := xsBr_t c14 hf
    refine lv_iconst (v := (0 : Int32)) hx hb dX4_tryNext_74 (by decide) ?_
    have ev := Option.some.inj hf
    subst ev
    exact K13 (0 : Int32) hk12 H locs ls hP hD hS (lv_sub hl [5, 8, 9, 0] rfl)
  · replace hf := xsBr_f c14 hf
    refine lv_iconst (v := (1 : Int32)) hx hb dX4_tryNext_70 (by decide) ?_
    refine lv_goto (tgt := 75) hx hb dX4_tryNext_71 (by decide) ?_
    have ev := Option.some.inj hf
    subst ev
    exact K13 (1 : Int32) hk12 H locs ls hP hD hS (lv_sub hl [5, 8, 9, 0] rfl)
set_option maxRecDepth 100000 in
set_option maxHeartbeats 8000000 in
theorem mX4_wrap (l : Launch) {X : xsX} {kIsKept kIsStale hiLatest hiSize scLength scFault scAt scNumber piSegmentsNow enKind enFromX enFromY enToX enToY tiMeetingPairs tiAlongPairs tiSize evSize evCrossings evSegmentsNow grEdges grQueued huSize huBestX huBestY : Int32} {scBytes scTold tiTouching tiLyingAlong evBundle evCrossingOf evEventOf evLeftEvent evRightEvent grDegree grFar grQueue huX huY : Nat → Int32} {enX enY enLower : Int64} {evX evY evLower : Nat → Int64} {S : Nat → xsV} {Rw : va_W} {js : Nat} (hjs : js < 12) {sLx sLy sRx sRy sTi : Nat → Int32} {sSz : Int32} (hs_s : S js = (sLx, sLy, sRx, sRy, sTi, sSz)) {out : (Nat → Int32) × (Nat → Int32) × Int32 × Int32 × Int32} (hf : fX4_wrap huX huY huSize huBestX huBestY sLx sLy sRx sRy sSz = some out) : Met l yX4_wrap (xsWs yX4_wrap cX4_wrap 4 none) { frames := 2, cells := 0, slots := 0, locals := 59 } (xsP X (wK X kIsKept kIsStale hiLatest hiSize scBytes scTold scLength scFault scAt scNumber piSegmentsNow enKind enX enY enLower enFromX enFromY enToX enToY tiTouching tiLyingAlong tiMeetingPairs tiAlongPairs tiSize evX evY evLower evBundle evCrossingOf evEventOf evLeftEvent evRightEvent evSize evCrossings evSegmentsNow grDegree grEdges grFar grQueue grQueued huX huY huSize huBestX huBestY S Rw) [.ref (xsA X 24), .ref (xsA X (27 + 6 * js))]) (xsQv X (wK X kIsKept kIsStale hiLatest hiSize scBytes scTold scLength scFault scAt scNumber piSegmentsNow enKind enX enY enLower enFromX enFromY enToX enToY tiTouching tiLyingAlong tiMeetingPairs tiAlongPairs tiSize evX evY evLower evBundle evCrossingOf evEventOf evLeftEvent evRightEvent evSize evCrossings evSegmentsNow grDegree grEdges grFar grQueue grQueued out.1 out.2.1 out.2.2.1 out.2.2.2.1 out.2.2.2.2 S Rw)) 0 0 (xsF X) := by
  refine xs_meth RX4 (by decide) rfl (Nat.le_of_ble_eq_true rfl) ?_
  intro p e s m below meth c ls H locs C hP hD hS hr hlk hl
  have hx := C.1
  have hb := C.2.1
  have hl : lv_has ls 4 [(0, .ref (xsA X 24)), (1, .ref (xsA X (27 + 6 * js)))] := hl
  obtain ⟨Qq, hQq⟩ : ∃ Qq, Qq = xsQv X (wK X kIsKept kIsStale hiLatest hiSize scBytes scTold scLength scFault scAt scNumber piSegmentsNow enKind enX enY enLower enFromX enFromY enToX enToY tiTouching tiLyingAlong tiMeetingPairs tiAlongPairs tiSize evX evY evLower evBundle evCrossingOf evEventOf evLeftEvent evRightEvent evSize evCrossings evSegmentsNow grDegree grEdges grFar grQueue grQueued out.1 out.2.1 out.2.2.1 out.2.2.2.1 out.2.2.2.2 S Rw) := ⟨_, rfl⟩
  rw [← hQq]
  unfold fX4_wrap at hf
  refine lv_aload_n hx hb dX4_wrap_0 rfl (lv_at hl 0 rfl) ?_
  refine lv_iconst (v := (0 : Int32)) hx hb dX4_wrap_1 (by decide) ?_
  refine xp_X4_18 C hP hD hS dX4_wrap_2 (fun H locs hP hD hS => ?_)
  refine lv_aload_n hx hb dX4_wrap_5 rfl (lv_at hl 1 rfl) ?_
  refine xg_X4_28 (j := js) hjs hs_s C hP dX4_wrap_6 ?_
  refine lv_if_ne (tgt := 13) hx hb dX4_wrap_9 (by decide) (fun c47 => ?_) (fun c47 => ?_)
  · replace hf := xsBr_f c47 hf
    refine lv_aload_n hx hb dX4_wrap_13 rfl (lv_at hl 0 rfl) ?_
    refine lv_aload_n hx hb dX4_wrap_14 rfl (lv_at hl 1 rfl) ?_
    replace hf := xsBd_use hf
    obtain ⟨o1, h2, hf⟩ := hf
    refine xs_callv hS (xs_runV (As := [.ref (xsA X (27 + 6 * js))]) C (mX4_findLeast l (js := js) hjs hs_s h2) w_754 w_756 w_13 w_114 w_757 hd_X4_findLeast ⟨rfl, rfl, Nat.le_of_ble_eq_true rfl, Nat.le_of_ble_eq_true rfl, Nat.zero_le _, Nat.zero_le _⟩ hP hD hS lk_X4 rfl hl.1 rfl (Nat.le_of_ble_eq_true rfl) dX4_wrap_15) (fun H locs hP hD hS => ?_)
    refine lv_iconst (v := (0 : Int32)) hx hb dX4_wrap_18 (by decide) ?_
    refine lv_istore_n (lv' := [(2, .int (0 : Int32)), (0, .ref (xsA X 24)), (1, .ref (xsA X (27 + 6 * js)))]) hx hb dX4_wrap_19 rfl hl (by decide) rfl (fun ls hl => ?_)
    have K9 : ∀ (y10 : Nat → Int32) (y11 : Nat → Int32) (y12 : Int32) (y13 : Int32) (y14 : Int32) (hf : fX4_wrap_J158 y10 y11 y12 y13 y14 = some out) (H : Heap) (locs : List Loc) (ls : Array Slot), va_P (xsD X) vwCl (wK X kIsKept kIsStale hiLatest hiSize scBytes scTold scLength scFault scAt scNumber piSegmentsNow enKind enX enY enLower enFromX enFromY enToX enToY tiTouching tiLyingAlong tiMeetingPairs tiAlongPairs tiSize evX evY evLower evBundle evCrossingOf evEventOf evLeftEvent evRightEvent evSize evCrossings evSegmentsNow grDegree grEdges grFar grQueue grQueued y10 y11 y12 y13 y14 S Rw) H → va_D (xsF X) (wK X kIsKept kIsStale hiLatest hiSize scBytes scTold scLength scFault scAt scNumber piSegmentsNow enKind enX enY enLower enFromX enFromY enToX enToY tiTouching tiLyingAlong tiMeetingPairs tiAlongPairs tiSize evX evY evLower evBundle evCrossingOf evEventOf evLeftEvent evRightEvent evSize evCrossings evSegmentsNow grDegree grEdges grFar grQueue grQueued y10 y11 y12 y13 y14 S Rw) → va_S (xsF X) s.heap H locs → lv_has ls 4 [] → W p l e { frames := 2, cells := 0, slots := 0, locals := 59 } s m ([.ref (xsA X 24), .ref (xsA X (27 + 6 * js))] : List Value).toArray below meth c H locs 0 0 (MQ below Qq ([.ref (xsA X 24), .ref (xsA X (27 + 6 * js))] : List Value).toArray s 0 0 (xsF X)) (F0 m 158 ls []) := by
      intro y10 y11 y12 y13 y14 hf H locs ls hP hD hS hl
      unfold fX4_wrap_J158 at hf
      have ho := Option.some.inj hf
      subst ho
      rw [hQq]
      exact xs_vret C hr hlk hP hD hS dX4_wrap_158
    replace hf := xsBd_use hf
    obtain ⟨r9, hk90, hf⟩ := hf
    have L9 : ∀ (sg : Int32 × (Nat → Int32) × (Nat → Int32) × Int32 × Int32 × Int32) (rg : ((Nat → Int32) × (Nat → Int32) × Int32 × Int32 × Int32) ⊕ ((Nat → Int32) × (Nat → Int32) × Int32 × Int32 × Int32)), xsWh (fun s9 => fX4_wrap_L20 sLx sLy sRx sRy sSz s9.1 s9.2.1 s9.2.2.1 s9.2.2.2.1 s9.2.2.2.2.1 s9.2.2.2.2.2) sg = some rg → (xsSm rg (fun v9 => fX4_wrap_J158 v9.1 v9.2.1 v9.2.2.1 v9.2.2.2.1 v9.2.2.2.2) = some out → ∀ (H : Heap) (locs : List Loc) (ls : Array Slot), va_P (xsD X) vwCl (wK X kIsKept kIsStale hiLatest hiSize scBytes scTold scLength scFault scAt scNumber piSegmentsNow enKind enX enY enLower enFromX enFromY enToX enToY tiTouching tiLyingAlong tiMeetingPairs tiAlongPairs tiSize evX evY evLower evBundle evCrossingOf evEventOf evLeftEvent evRightEvent evSize evCrossings evSegmentsNow grDegree grEdges grFar grQueue grQueued sg.2.1 sg.2.2.1 sg.2.2.2.1 sg.2.2.2.2.1 sg.2.2.2.2.2 S Rw) H → va_D (xsF X) (wK X kIsKept kIsStale hiLatest hiSize scBytes scTold scLength scFault scAt scNumber piSegmentsNow enKind enX enY enLower enFromX enFromY enToX enToY tiTouching tiLyingAlong tiMeetingPairs tiAlongPairs tiSize evX evY evLower evBundle evCrossingOf evEventOf evLeftEvent evRightEvent evSize evCrossings evSegmentsNow grDegree grEdges grFar grQueue grQueued sg.2.1 sg.2.2.1 sg.2.2.2.1 sg.2.2.2.2.1 sg.2.2.2.2.2 S Rw) → va_S (xsF X) s.heap H locs → lv_has ls 4 [(0, .ref (xsA X 24)), (1, .ref (xsA X (27 + 6 * js))), (2, .int sg.1)] → W p l e { frames := 2, cells := 0, slots := 0, locals := 59 } s m ([.ref (xsA X 24), .ref (xsA X (27 + 6 * js))] : List Value).toArray below meth c H locs 0 0 (MQ below Qq ([.ref (xsA X 24), .ref (xsA X (27 + 6 * js))] : List Value).toArray s 0 0 (xsF X)) (F0 m 20 ls [])) := by
      refine xsWh_ind ?_
      intro sg r9 u9 hf ih9 hx9 hk9 H locs ls hP hD hS hl
      obtain ⟨y3, y4, y5, y6, y7, y8⟩ := sg
      replace hf : fX4_wrap_L20 sLx sLy sRx sRy sSz y3 y4 y5 y6 y7 y8 = some u9 := hf
      replace hl : lv_has ls 4 [(0, .ref (xsA X 24)), (1, .ref (xsA X (27 + 6 * js))), (2, .int y3)] := hl
      replace hP : va_P (xsD X) vwCl (wK X kIsKept kIsStale hiLatest hiSize scBytes scTold scLength scFault scAt scNumber piSegmentsNow enKind enX enY enLower enFromX enFromY enToX enToY tiTouching tiLyingAlong tiMeetingPairs tiAlongPairs tiSize evX evY evLower evBundle evCrossingOf evEventOf evLeftEvent evRightEvent evSize evCrossings evSegmentsNow grDegree grEdges grFar grQueue grQueued y4 y5 y6 y7 y8 S Rw) H := hP
      replace hD : va_D (xsF X) (wK X kIsKept kIsStale hiLatest hiSize scBytes scTold scLength scFault scAt scNumber piSegmentsNow enKind enX enY enLower enFromX enFromY enToX enToY tiTouching tiLyingAlong tiMeetingPairs tiAlongPairs tiSize evX evY evLower evBundle evCrossingOf evEventOf evLeftEvent evRightEvent evSize evCrossings evSegmentsNow grDegree grEdges grFar grQueue grQueued y4 y5 y6 y7 y8 S Rw) := hD
      unfold fX4_wrap_L20 at hf
      refine lv_iload_n hx hb dX4_wrap_20 rfl (lv_at hl 2 rfl) ?_
      refine lv_bipush (v := (48 : Int32)) hx hb dX4_wrap_21 (by decide) ?_
      refine lv_icmp_ge (tgt := 158) hx hb dX4_wrap_23 (by decide) (fun c46 => ?_) (fun c46 => ?_)
      · replace hf := xsBr_t c46 hf
        have ez := hx9 _ (Option.some.inj hf).symm
        subst ez
        exact K9 y4 y5 y6 y7 y8 hk9 H locs ls hP hD hS (lv_sub hl [] rfl)
      · replace hf := xsBr_f c46 hf
        refine lv_aload_n hx hb dX4_wrap_26 rfl (lv_at hl 0 rfl) ?_
        refine xg_X4_11 C hP dX4_wrap_27 ?_
        refine lv_iload_n hx hb dX4_wrap_30 rfl (lv_at hl 2 rfl) ?_
        refine lv_aload_n hx hb dX4_wrap_31 rfl (lv_at hl 0 rfl) ?_
        refine xg_X4_22 C hP dX4_wrap_32 ?_
        replace hf := xsCk_use hf
        obtain ⟨h15, hf⟩ := hf
        refine xs_huX C hP hD hS h15 dX4_wrap_35 (fun f16 ef16 H locs hP hD hS => ?_)
        replace hf := xsLt_use ef16 hf
        refine lv_aload_n hx hb dX4_wrap_36 rfl (lv_at hl 0 rfl) ?_
        refine xg_X4_15 C hP dX4_wrap_37 ?_
        refine lv_iload_n hx hb dX4_wrap_40 rfl (lv_at hl 2 rfl) ?_
        refine lv_aload_n hx hb dX4_wrap_41 rfl (lv_at hl 0 rfl) ?_
        refine xg_X4_25 C hP dX4_wrap_42 ?_
        replace hf := xsCk_use hf
        obtain ⟨h17, hf⟩ := hf
        refine xs_huY C hP hD hS h17 dX4_wrap_45 (fun f18 ef18 H locs hP hD hS => ?_)
        replace hf := xsLt_use ef18 hf
        refine lv_aload_n hx hb dX4_wrap_46 rfl (lv_at hl 0 rfl) ?_
        refine lv_iload_n hx hb dX4_wrap_47 rfl (lv_at hl 2 rfl) ?_
        refine lv_iconst (v := (1 : Int32)) hx hb dX4_wrap_48 (by decide) ?_
        refine lv_iadd hx hb dX4_wrap_49 ?_
        refine lv_topi (fun x19 ex19 => ?_)
        replace hf := xsLt_use ex19 hf
        refine xp_X4_18 C hP hD hS dX4_wrap_50 (fun H locs hP hD hS => ?_)
        refine lv_iconst (v := (0 : Int32)) hx hb dX4_wrap_53 (by decide) ?_
        refine lv_istore_n (lv' := [(3, .int (0 : Int32)), (0, .ref (xsA X 24)), (1, .ref (xsA X (27 + 6 * js))), (2, .int y3)]) hx hb dX4_wrap_54 rfl hl (by decide) rfl (fun ls hl => ?_)
        have K23 : ∀ (y24 : Int32) (y25 : Int32) (hf : fX4_wrap_J125 y3 f16 f18 x19 y24 y25 = some u9) (H : Heap) (locs : List Loc) (ls : Array Slot), va_P (xsD X) vwCl (wK X kIsKept kIsStale hiLatest hiSize scBytes scTold scLength scFault scAt scNumber piSegmentsNow enKind enX enY enLower enFromX enFromY enToX enToY tiTouching tiLyingAlong tiMeetingPairs tiAlongPairs tiSize evX evY evLower evBundle evCrossingOf evEventOf evLeftEvent evRightEvent evSize evCrossings evSegmentsNow grDegree grEdges grFar grQueue grQueued f16 f18 x19 y24 y25 S Rw) H → va_D (xsF X) (wK X kIsKept kIsStale hiLatest hiSize scBytes scTold scLength scFault scAt scNumber piSegmentsNow enKind enX enY enLower enFromX enFromY enToX enToY tiTouching tiLyingAlong tiMeetingPairs tiAlongPairs tiSize evX evY evLower evBundle evCrossingOf evEventOf evLeftEvent evRightEvent evSize evCrossings evSegmentsNow grDegree grEdges grFar grQueue grQueued f16 f18 x19 y24 y25 S Rw) → va_S (xsF X) s.heap H locs → lv_has ls 4 [(0, .ref (xsA X 24)), (1, .ref (xsA X (27 + 6 * js))), (2, .int y3)] → W p l e { frames := 2, cells := 0, slots := 0, locals := 59 } s m ([.ref (xsA X 24), .ref (xsA X (27 + 6 * js))] : List Value).toArray below meth c H locs 0 0 (MQ below Qq ([.ref (xsA X 24), .ref (xsA X (27 + 6 * js))] : List Value).toArray s 0 0 (xsF X)) (F0 m 125 ls []) := by
          intro y24 y25 hf H locs ls hP hD hS hl
          unfold fX4_wrap_J125 at hf
          refine lv_aload_n hx hb dX4_wrap_125 rfl (lv_at hl 0 rfl) ?_
          refine xg_X4_22 C hP dX4_wrap_126 ?_
          refine lv_aload_n hx hb dX4_wrap_129 rfl (lv_at hl 0 rfl) ?_
          refine xg_X4_11 C hP dX4_wrap_130 ?_
          refine lv_iconst (v := (0 : Int32)) hx hb dX4_wrap_133 (by decide) ?_
          replace hf := xsCk_use hf
          obtain ⟨h26, hf⟩ := hf
          refine xl_huX C hP h26 dX4_wrap_134 ?_
          refine lv_icmp_ne (tgt := 152) hx hb dX4_wrap_135 (by decide) (fun c31 => ?_) (fun c31 => ?_)
          · replace hf := xsBr_f c31 hf
            obtain ⟨x27, ex27⟩ : ∃ y : Int32, y = y3 + (1 : Int32) := ⟨_, rfl⟩
            replace hf := xsLt_use ex27 hf
            refine lv_iinc (v := x27) (lv' := [(2, .int x27), (0, .ref (xsA X 24)), (1, .ref (xsA X (27 + 6 * js)))]) hx hb dX4_wrap_152 hl (k := 2) rfl (by rw [ex27]; rfl) (by decide) rfl (fun ls hl => ?_)
            refine lv_goto (tgt := 20) hx hb dX4_wrap_155 (by decide) ?_
            exact ih9 _ (Option.some.inj hf).symm hk9 H locs ls hP hD hS (lv_sub hl [1, 2, 0] rfl)
          · replace hf := xsBr_t c31 hf
            refine lv_aload_n hx hb dX4_wrap_138 rfl (lv_at hl 0 rfl) ?_
            refine xg_X4_25 C hP dX4_wrap_139 ?_
            refine lv_aload_n hx hb dX4_wrap_142 rfl (lv_at hl 0 rfl) ?_
            refine xg_X4_15 C hP dX4_wrap_143 ?_
            refine lv_iconst (v := (0 : Int32)) hx hb dX4_wrap_146 (by decide) ?_
            replace hf := xsCk_use hf
            obtain ⟨h28, hf⟩ := hf
            refine xl_huY C hP h28 dX4_wrap_147 ?_
            refine lv_icmp_ne (tgt := 152) hx hb dX4_wrap_148 (by decide) (fun c30 => ?_) (fun c30 => ?_)
            · replace hf := xsBr_f c30 hf
              obtain ⟨x29, ex29⟩ : ∃ y : Int32, y = y3 + (1 : Int32) := ⟨_, rfl⟩
              replace hf := xsLt_use ex29 hf
              refine lv_iinc (v := x29) (lv' := [(2, .int x29), (0, .ref (xsA X 24)), (1, .ref (xsA X (27 + 6 * js)))]) hx hb dX4_wrap_152 hl (k := 2) rfl (by rw [ex29]; rfl) (by decide) rfl (fun ls hl => ?_)
              refine lv_goto (tgt := 20) hx hb dX4_wrap_155 (by decide) ?_
              exact ih9 _ (Option.some.inj hf).symm hk9 H locs ls hP hD hS (lv_sub hl [1, 2, 0] rfl)
            · replace hf := xsBr_t c30 hf
              have ez := hx9 _ (Option.some.inj hf).symm
              subst ez
              have hf := hk9
              have ho := Option.some.inj hf
              subst ho
              rw [hQq]
              exact xs_vret C hr hlk hP hD hS dX4_wrap_151
        replace hf := xsBd_use hf
        obtain ⟨r23, hk230, hf⟩ := hf
        have L23 : ∀ (sg : Int32 × Int32 × Int32) (rg : Int32 × Int32), xsWh (fun s23 => fX4_wrap_L55 sLx sLy sRx sRy sSz y3 f16 f18 s23.1 s23.2.1 s23.2.2) sg = some rg → (fX4_wrap_J125 y3 f16 f18 x19 rg.1 rg.2 = some u9 → ∀ (H : Heap) (locs : List Loc) (ls : Array Slot), va_P (xsD X) vwCl (wK X kIsKept kIsStale hiLatest hiSize scBytes scTold scLength scFault scAt scNumber piSegmentsNow enKind enX enY enLower enFromX enFromY enToX enToY tiTouching tiLyingAlong tiMeetingPairs tiAlongPairs tiSize evX evY evLower evBundle evCrossingOf evEventOf evLeftEvent evRightEvent evSize evCrossings evSegmentsNow grDegree grEdges grFar grQueue grQueued f16 f18 x19 sg.2.1 sg.2.2 S Rw) H → va_D (xsF X) (wK X kIsKept kIsStale hiLatest hiSize scBytes scTold scLength scFault scAt scNumber piSegmentsNow enKind enX enY enLower enFromX enFromY enToX enToY tiTouching tiLyingAlong tiMeetingPairs tiAlongPairs tiSize evX evY evLower evBundle evCrossingOf evEventOf evLeftEvent evRightEvent evSize evCrossings evSegmentsNow grDegree grEdges grFar grQueue grQueued f16 f18 x19 sg.2.1 sg.2.2 S Rw) → va_S (xsF X) s.heap H locs → lv_has ls 4 [(0, .ref (xsA X 24)), (1, .ref (xsA X (27 + 6 * js))), (2, .int y3), (3, .int sg.1)] → W p l e { frames := 2, cells := 0, slots := 0, locals := 59 } s m ([.ref (xsA X 24), .ref (xsA X (27 + 6 * js))] : List Value).toArray below meth c H locs 0 0 (MQ below Qq ([.ref (xsA X 24), .ref (xsA X (27 + 6 * js))] : List Value).toArray s 0 0 (xsF X)) (F0 m 55 ls [])) := by
          refine xsWh_ind ?_
          intro sg r23 u23 hf ih23 hx23 hk23 H locs ls hP hD hS hl
          obtain ⟨y20, y21, y22⟩ := sg
          replace hf : fX4_wrap_L55 sLx sLy sRx sRy sSz y3 f16 f18 y20 y21 y22 = some u23 := hf
          replace hl : lv_has ls 4 [(0, .ref (xsA X 24)), (1, .ref (xsA X (27 + 6 * js))), (2, .int y3), (3, .int y20)] := hl
          replace hP : va_P (xsD X) vwCl (wK X kIsKept kIsStale hiLatest hiSize scBytes scTold scLength scFault scAt scNumber piSegmentsNow enKind enX enY enLower enFromX enFromY enToX enToY tiTouching tiLyingAlong tiMeetingPairs tiAlongPairs tiSize evX evY evLower evBundle evCrossingOf evEventOf evLeftEvent evRightEvent evSize evCrossings evSegmentsNow grDegree grEdges grFar grQueue grQueued f16 f18 x19 y21 y22 S Rw) H := hP
          replace hD : va_D (xsF X) (wK X kIsKept kIsStale hiLatest hiSize scBytes scTold scLength scFault scAt scNumber piSegmentsNow enKind enX enY enLower enFromX enFromY enToX enToY tiTouching tiLyingAlong tiMeetingPairs tiAlongPairs tiSize evX evY evLower evBundle evCrossingOf evEventOf evLeftEvent evRightEvent evSize evCrossings evSegmentsNow grDegree grEdges grFar grQueue grQueued f16 f18 x19 y21 y22 S Rw) := hD
          unfold fX4_wrap_L55 at hf
          refine lv_iload_n hx hb dX4_wrap_55 rfl (lv_at hl 3 rfl) ?_
          refine lv_aload_n hx hb dX4_wrap_56 rfl (lv_at hl 1 rfl) ?_
          refine xg_X4_28 (j := js) hjs hs_s C hP dX4_wrap_57 ?_
          refine lv_icmp_ge (tgt := 125) hx hb dX4_wrap_60 (by decide) (fun c45 => ?_) (fun c45 => ?_)
          · replace hf := xsBr_t c45 hf
            have ez := hx23 _ (Option.some.inj hf).symm
            subst ez
            exact K23 y21 y22 hk23 H locs ls hP hD hS (lv_sub hl [0, 1, 2] rfl)
          · replace hf := xsBr_f c45 hf
            refine lv_aload_n hx hb dX4_wrap_63 rfl (lv_at hl 0 rfl) ?_
            refine lv_aload_n hx hb dX4_wrap_64 rfl (lv_at hl 0 rfl) ?_
            refine xg_X4_11 C hP dX4_wrap_65 ?_
            refine lv_iload_n hx hb dX4_wrap_68 rfl (lv_at hl 2 rfl) ?_
            replace hf := xsCk_use hf
            obtain ⟨h32, hf⟩ := hf
            refine xl_huX C hP h32 dX4_wrap_69 ?_
            refine lv_aload_n hx hb dX4_wrap_70 rfl (lv_at hl 0 rfl) ?_
            refine xg_X4_15 C hP dX4_wrap_71 ?_
            refine lv_iload_n hx hb dX4_wrap_74 rfl (lv_at hl 2 rfl) ?_
            replace hf := xsCk_use hf
            obtain ⟨h33, hf⟩ := hf
            refine xl_huY C hP h33 dX4_wrap_75 ?_
            refine lv_aload_n hx hb dX4_wrap_76 rfl (lv_at hl 1 rfl) ?_
            refine xg_X4_35 (j := js) hjs C hP dX4_wrap_77 ?_
            refine lv_iload_n hx hb dX4_wrap_80 rfl (lv_at hl 3 rfl) ?_
            replace hf := xsCk_use hf
            obtain ⟨h34, hf⟩ := hf
            refine xl_s0 (j := js) hjs hs_s C hP h34 dX4_wrap_81 ?_
            refine lv_aload_n hx hb dX4_wrap_82 rfl (lv_at hl 1 rfl) ?_
            refine xg_X4_38 (j := js) hjs C hP dX4_wrap_83 ?_
            refine lv_iload_n hx hb dX4_wrap_86 rfl (lv_at hl 3 rfl) ?_
            replace hf := xsCk_use hf
            obtain ⟨h35, hf⟩ := hf
            refine xl_s1 (j := js) hjs hs_s C hP h35 dX4_wrap_87 ?_
            replace hf := xsBd_use hf
            obtain ⟨o36, h37, hf⟩ := hf
            refine xs_callv hS (xs_runV (As := [.int (f16 y3.toNatClampNeg), .int (f18 y3.toNatClampNeg), .int (sLx y20.toNatClampNeg), .int (sLy y20.toNatClampNeg)]) C (mX4_tryNext l  h37) w_758 w_760 w_14 w_114 w_761 hd_X4_tryNext ⟨rfl, rfl, Nat.le_of_ble_eq_true rfl, Nat.le_of_ble_eq_true rfl, Nat.zero_le _, Nat.zero_le _⟩ hP hD hS lk_X4 rfl hl.1 rfl (Nat.le_of_ble_eq_true rfl) dX4_wrap_88) (fun H locs hP hD hS => ?_)
            refine lv_aload_n hx hb dX4_wrap_91 rfl (lv_at hl 0 rfl) ?_
            refine lv_aload_n hx hb dX4_wrap_92 rfl (lv_at hl 0 rfl) ?_
            refine xg_X4_11 C hP dX4_wrap_93 ?_
            refine lv_iload_n hx hb dX4_wrap_96 rfl (lv_at hl 2 rfl) ?_
            replace hf := xsCk_use hf
            obtain ⟨h38, hf⟩ := hf
            refine xl_huX C hP h38 dX4_wrap_97 ?_
            refine lv_aload_n hx hb dX4_wrap_98 rfl (lv_at hl 0 rfl) ?_
            refine xg_X4_15 C hP dX4_wrap_99 ?_
            refine lv_iload_n hx hb dX4_wrap_102 rfl (lv_at hl 2 rfl) ?_
            replace hf := xsCk_use hf
            obtain ⟨h39, hf⟩ := hf
            refine xl_huY C hP h39 dX4_wrap_103 ?_
            refine lv_aload_n hx hb dX4_wrap_104 rfl (lv_at hl 1 rfl) ?_
            refine xg_X4_45 (j := js) hjs C hP dX4_wrap_105 ?_
            refine lv_iload_n hx hb dX4_wrap_108 rfl (lv_at hl 3 rfl) ?_
            replace hf := xsCk_use hf
            obtain ⟨h40, hf⟩ := hf
            refine xl_s2 (j := js) hjs hs_s C hP h40 dX4_wrap_109 ?_
            refine lv_aload_n hx hb dX4_wrap_110 rfl (lv_at hl 1 rfl) ?_
            refine xg_X4_48 (j := js) hjs C hP dX4_wrap_111 ?_
            refine lv_iload_n hx hb dX4_wrap_114 rfl (lv_at hl 3 rfl) ?_
            replace hf := xsCk_use hf
            obtain ⟨h41, hf⟩ := hf
            refine xl_s3 (j := js) hjs hs_s C hP h41 dX4_wrap_115 ?_
            replace hf := xsBd_use hf
            obtain ⟨o42, h43, hf⟩ := hf
            refine xs_callv hS (xs_runV (As := [.int (f16 y3.toNatClampNeg), .int (f18 y3.toNatClampNeg), .int (sRx y20.toNatClampNeg), .int (sRy y20.toNatClampNeg)]) C (mX4_tryNext l  h43) w_758 w_760 w_14 w_114 w_761 hd_X4_tryNext ⟨rfl, rfl, Nat.le_of_ble_eq_true rfl, Nat.le_of_ble_eq_true rfl, Nat.zero_le _, Nat.zero_le _⟩ hP hD hS lk_X4 rfl hl.1 rfl (Nat.le_of_ble_eq_true rfl) dX4_wrap_116) (fun H locs hP hD hS => ?_)
            obtain ⟨x44, ex44⟩ : ∃ y : Int32, y = y20 + (1 : Int32) := ⟨_, rfl⟩
            replace hf := xsLt_use ex44 hf
            refine lv_iinc (v := x44) (lv' := [(3, .int x44), (0, .ref (xsA X 24)), (1, .ref (xsA X (27 + 6 * js))), (2, .int y3)]) hx hb dX4_wrap_119 hl (k := 3) rfl (by rw [ex44]; rfl) (by decide) rfl (fun ls hl => ?_)
            refine lv_goto (tgt := 55) hx hb dX4_wrap_122 (by decide) ?_
            exact ih23 _ (Option.some.inj hf).symm hk23 H locs ls hP hD hS (lv_sub hl [1, 2, 3, 0] rfl)
        exact L23 ((0 : Int32), y7, y8) r23 hk230 hf H locs ls hP hD hS (lv_sub hl [1, 2, 3, 0] rfl)
    exact L9 ((0 : Int32), huX, huY, (0 : Int32), o1.1, o1.2) r9 hk90 hf H locs ls hP hD hS (lv_sub hl [1, 2, 0] rfl)
  · replace hf := xsBr_t c47 hf
    have ho := Option.some.inj hf
    subst ho
    rw [hQq]
    exact xs_vret C hr hlk hP hD hS dX4_wrap_12
set_option maxRecDepth 100000 in
set_option maxHeartbeats 8000000 in
theorem mX9_clear (l : Launch) {X : xsX} {kIsKept kIsStale hiLatest hiSize scLength scFault scAt scNumber piSegmentsNow enKind enFromX enFromY enToX enToY tiMeetingPairs tiAlongPairs tiSize evSize evCrossings evSegmentsNow grEdges grQueued huSize huBestX huBestY : Int32} {scBytes scTold tiTouching tiLyingAlong evBundle evCrossingOf evEventOf evLeftEvent evRightEvent grDegree grFar grQueue huX huY : Nat → Int32} {enX enY enLower : Int64} {evX evY evLower : Nat → Int64} {S : Nat → xsV} {Rw : va_W} {a0 : Int32} {out : (Nat → Int32) × (Nat → Int32) × Int32 × Int32 × Int32} (hf : fX9_clear tiTouching tiLyingAlong tiMeetingPairs tiAlongPairs tiSize a0 = some out) : Met l yX9_clear (xsWs yX9_clear cX9_clear 3 none) { frames := 0, cells := 0, slots := 0, locals := 0 } (xsP X (wK X kIsKept kIsStale hiLatest hiSize scBytes scTold scLength scFault scAt scNumber piSegmentsNow enKind enX enY enLower enFromX enFromY enToX enToY tiTouching tiLyingAlong tiMeetingPairs tiAlongPairs tiSize evX evY evLower evBundle evCrossingOf evEventOf evLeftEvent evRightEvent evSize evCrossings evSegmentsNow grDegree grEdges grFar grQueue grQueued huX huY huSize huBestX huBestY S Rw) [.ref (xsA X 8), .int a0]) (xsQv X (wK X kIsKept kIsStale hiLatest hiSize scBytes scTold scLength scFault scAt scNumber piSegmentsNow enKind enX enY enLower enFromX enFromY enToX enToY out.1 out.2.1 out.2.2.1 out.2.2.2.1 out.2.2.2.2 evX evY evLower evBundle evCrossingOf evEventOf evLeftEvent evRightEvent evSize evCrossings evSegmentsNow grDegree grEdges grFar grQueue grQueued huX huY huSize huBestX huBestY S Rw)) 0 0 (xsF X) := by
  refine xs_meth RX9 (by decide) rfl (Nat.le_of_ble_eq_true rfl) ?_
  intro p e s m below meth c ls H locs C hP hD hS hr hlk hl
  have hx := C.1
  have hb := C.2.1
  have hl : lv_has ls 3 [(0, .ref (xsA X 8)), (1, .int a0)] := hl
  obtain ⟨Qq, hQq⟩ : ∃ Qq, Qq = xsQv X (wK X kIsKept kIsStale hiLatest hiSize scBytes scTold scLength scFault scAt scNumber piSegmentsNow enKind enX enY enLower enFromX enFromY enToX enToY out.1 out.2.1 out.2.2.1 out.2.2.2.1 out.2.2.2.2 evX evY evLower evBundle evCrossingOf evEventOf evLeftEvent evRightEvent evSize evCrossings evSegmentsNow grDegree grEdges grFar grQueue grQueued huX huY huSize huBestX huBestY S Rw) := ⟨_, rfl⟩
  rw [← hQq]
  unfold fX9_clear at hf
  refine lv_iconst (v := (0 : Int32)) hx hb dX9_clear_0 (by decide) ?_
  refine lv_istore_n (lv' := [(2, .int (0 : Int32)), (0, .ref (xsA X 8)), (1, .int a0)]) hx hb dX9_clear_1 rfl hl (by decide) rfl (fun ls hl => ?_)
  have K4 : ∀ (y5 : Nat → Int32) (y6 : Nat → Int32) (hf : fX9_clear_J27 a0 y5 y6 = some out) (H : Heap) (locs : List Loc) (ls : Array Slot), va_P (xsD X) vwCl (wK X kIsKept kIsStale hiLatest hiSize scBytes scTold scLength scFault scAt scNumber piSegmentsNow enKind enX enY enLower enFromX enFromY enToX enToY y5 y6 tiMeetingPairs tiAlongPairs tiSize evX evY evLower evBundle evCrossingOf evEventOf evLeftEvent evRightEvent evSize evCrossings evSegmentsNow grDegree grEdges grFar grQueue grQueued huX huY huSize huBestX huBestY S Rw) H → va_D (xsF X) (wK X kIsKept kIsStale hiLatest hiSize scBytes scTold scLength scFault scAt scNumber piSegmentsNow enKind enX enY enLower enFromX enFromY enToX enToY y5 y6 tiMeetingPairs tiAlongPairs tiSize evX evY evLower evBundle evCrossingOf evEventOf evLeftEvent evRightEvent evSize evCrossings evSegmentsNow grDegree grEdges grFar grQueue grQueued huX huY huSize huBestX huBestY S Rw) → va_S (xsF X) s.heap H locs → lv_has ls 3 [(0, .ref (xsA X 8)), (1, .int a0)] → W p l e { frames := 0, cells := 0, slots := 0, locals := 0 } s m ([.ref (xsA X 8), .int a0] : List Value).toArray below meth c H locs 0 0 (MQ below Qq ([.ref (xsA X 8), .int a0] : List Value).toArray s 0 0 (xsF X)) (F0 m 27 ls []) := by
    intro y5 y6 hf H locs ls hP hD hS hl
    unfold fX9_clear_J27 at hf
    refine lv_aload_n hx hb dX9_clear_27 rfl (lv_at hl 0 rfl) ?_
    refine lv_iconst (v := (0 : Int32)) hx hb dX9_clear_28 (by decide) ?_
    refine xp_X9_18 C hP hD hS dX9_clear_29 (fun H locs hP hD hS => ?_)
    refine lv_aload_n hx hb dX9_clear_32 rfl (lv_at hl 0 rfl) ?_
    refine lv_iconst (v := (0 : Int32)) hx hb dX9_clear_33 (by decide) ?_
    refine xp_X9_22 C hP hD hS dX9_clear_34 (fun H locs hP hD hS => ?_)
    refine lv_aload_n hx hb dX9_clear_37 rfl (lv_at hl 0 rfl) ?_
    refine lv_iload_n hx hb dX9_clear_38 rfl (lv_at hl 1 rfl) ?_
    refine xp_X9_25 C hP hD hS dX9_clear_39 (fun H locs hP hD hS => ?_)
    have ho := Option.some.inj hf
    subst ho
    rw [hQq]
    exact xs_vret C hr hlk hP hD hS dX9_clear_42
  replace hf := xsBd_use hf
  obtain ⟨r4, hk40, hf⟩ := hf
  have L4 : ∀ (sg : Int32 × (Nat → Int32) × (Nat → Int32)) (rg : (Nat → Int32) × (Nat → Int32)), xsWh (fun s4 => fX9_clear_L2 a0 s4.1 s4.2.1 s4.2.2) sg = some rg → (fX9_clear_J27 a0 rg.1 rg.2 = some out → ∀ (H : Heap) (locs : List Loc) (ls : Array Slot), va_P (xsD X) vwCl (wK X kIsKept kIsStale hiLatest hiSize scBytes scTold scLength scFault scAt scNumber piSegmentsNow enKind enX enY enLower enFromX enFromY enToX enToY sg.2.1 sg.2.2 tiMeetingPairs tiAlongPairs tiSize evX evY evLower evBundle evCrossingOf evEventOf evLeftEvent evRightEvent evSize evCrossings evSegmentsNow grDegree grEdges grFar grQueue grQueued huX huY huSize huBestX huBestY S Rw) H → va_D (xsF X) (wK X kIsKept kIsStale hiLatest hiSize scBytes scTold scLength scFault scAt scNumber piSegmentsNow enKind enX enY enLower enFromX enFromY enToX enToY sg.2.1 sg.2.2 tiMeetingPairs tiAlongPairs tiSize evX evY evLower evBundle evCrossingOf evEventOf evLeftEvent evRightEvent evSize evCrossings evSegmentsNow grDegree grEdges grFar grQueue grQueued huX huY huSize huBestX huBestY S Rw) → va_S (xsF X) s.heap H locs → lv_has ls 3 [(0, .ref (xsA X 8)), (1, .int a0), (2, .int sg.1)] → W p l e { frames := 0, cells := 0, slots := 0, locals := 0 } s m ([.ref (xsA X 8), .int a0] : List Value).toArray below meth c H locs 0 0 (MQ below Qq ([.ref (xsA X 8), .int a0] : List Value).toArray s 0 0 (xsF X)) (F0 m 2 ls [])) := by
    refine xsWh_ind ?_
    intro sg r4 u4 hf ih4 hx4 hk4 H locs ls hP hD hS hl
    obtain ⟨y1, y2, y3⟩ := sg
    replace hf : fX9_clear_L2 a0 y1 y2 y3 = some u4 := hf
    replace hl : lv_has ls 3 [(0, .ref (xsA X 8)), (1, .int a0), (2, .int y1)] := hl
    replace hP : va_P (xsD X) vwCl (wK X kIsKept kIsStale hiLatest hiSize scBytes scTold scLength scFault scAt scNumber piSegmentsNow enKind enX enY enLower enFromX enFromY enToX enToY y2 y3 tiMeetingPairs tiAlongPairs tiSize evX evY evLower evBundle evCrossingOf evEventOf evLeftEvent evRightEvent evSize evCrossings evSegmentsNow grDegree grEdges grFar grQueue grQueued huX huY huSize huBestX huBestY S Rw) H := hP
    replace hD : va_D (xsF X) (wK X kIsKept kIsStale hiLatest hiSize scBytes scTold scLength scFault scAt scNumber piSegmentsNow enKind enX enY enLower enFromX enFromY enToX enToY y2 y3 tiMeetingPairs tiAlongPairs tiSize evX evY evLower evBundle evCrossingOf evEventOf evLeftEvent evRightEvent evSize evCrossings evSegmentsNow grDegree grEdges grFar grQueue grQueued huX huY huSize huBestX huBestY S Rw) := hD
    unfold fX9_clear_L2 at hf
    refine lv_iload_n hx hb dX9_clear_2 rfl (lv_at hl 2 rfl) ?_
    refine lv_iload_n hx hb dX9_clear_3 rfl (lv_at hl 1 rfl) ?_
    refine lv_icmp_ge (tgt := 27) hx hb dX9_clear_4 (by decide) (fun c12 => ?_) (fun c12 => ?_)
    · replace hf := xsBr_t c12 hf
      have ez := hx4 _ (Option.some.inj hf).symm
      subst ez
      exact K4 y2 y3 hk4 H locs ls hP hD hS (lv_sub hl [0, 1] rfl)
    · replace hf := xsBr_f c12 hf
      refine lv_aload_n hx hb dX9_clear_7 rfl (lv_at hl 0 rfl) ?_
      refine xg_X9_9 C hP dX9_clear_8 ?_
      refine lv_iload_n hx hb dX9_clear_11 rfl (lv_at hl 2 rfl) ?_
      refine lv_iconst (v := (0 : Int32)) hx hb dX9_clear_12 (by decide) ?_
      replace hf := xsCk_use hf
      obtain ⟨h7, hf⟩ := hf
      refine xs_tiTouching C hP hD hS h7 dX9_clear_13 (fun f8 ef8 H locs hP hD hS => ?_)
      replace hf := xsLt_use ef8 hf
      refine lv_aload_n hx hb dX9_clear_14 rfl (lv_at hl 0 rfl) ?_
      refine xg_X9_15 C hP dX9_clear_15 ?_
      refine lv_iload_n hx hb dX9_clear_18 rfl (lv_at hl 2 rfl) ?_
      refine lv_iconst (v := (0 : Int32)) hx hb dX9_clear_19 (by decide) ?_
      replace hf := xsCk_use hf
      obtain ⟨h9, hf⟩ := hf
      refine xs_tiLyingAlong C hP hD hS h9 dX9_clear_20 (fun f10 ef10 H locs hP hD hS => ?_)
      replace hf := xsLt_use ef10 hf
      obtain ⟨x11, ex11⟩ : ∃ y : Int32, y = y1 + (1 : Int32) := ⟨_, rfl⟩
      replace hf := xsLt_use ex11 hf
      refine lv_iinc (v := x11) (lv' := [(2, .int x11), (0, .ref (xsA X 8)), (1, .int a0)]) hx hb dX9_clear_21 hl (k := 2) rfl (by rw [ex11]; rfl) (by decide) rfl (fun ls hl => ?_)
      refine lv_goto (tgt := 2) hx hb dX9_clear_24 (by decide) ?_
      exact ih4 _ (Option.some.inj hf).symm hk4 H locs ls hP hD hS (lv_sub hl [1, 2, 0] rfl)
  exact L4 ((0 : Int32), tiTouching, tiLyingAlong) r4 hk40 hf H locs ls hP hD hS (lv_sub hl [1, 2, 0] rfl)
set_option maxRecDepth 100000 in
set_option maxHeartbeats 8000000 in
theorem mX9_note (l : Launch) {X : xsX} {kIsKept kIsStale hiLatest hiSize scLength scFault scAt scNumber piSegmentsNow enKind enFromX enFromY enToX enToY tiMeetingPairs tiAlongPairs tiSize evSize evCrossings evSegmentsNow grEdges grQueued huSize huBestX huBestY : Int32} {scBytes scTold tiTouching tiLyingAlong evBundle evCrossingOf evEventOf evLeftEvent evRightEvent grDegree grFar grQueue huX huY : Nat → Int32} {enX enY enLower : Int64} {evX evY evLower : Nat → Int64} {S : Nat → xsV} {Rw : va_W} {a0 : Int32} {a1 : Int32} {a2 : Int32} {out : (Nat → Int32) × (Nat → Int32) × Int32 × Int32} (hf : fX9_note tiTouching tiLyingAlong tiMeetingPairs tiAlongPairs a0 a1 a2 = some out) : Met l yX9_note (xsWs yX9_note cX9_note 4 none) { frames := 0, cells := 0, slots := 0, locals := 0 } (xsP X (wK X kIsKept kIsStale hiLatest hiSize scBytes scTold scLength scFault scAt scNumber piSegmentsNow enKind enX enY enLower enFromX enFromY enToX enToY tiTouching tiLyingAlong tiMeetingPairs tiAlongPairs tiSize evX evY evLower evBundle evCrossingOf evEventOf evLeftEvent evRightEvent evSize evCrossings evSegmentsNow grDegree grEdges grFar grQueue grQueued huX huY huSize huBestX huBestY S Rw) [.ref (xsA X 8), .int a0, .int a1, .int a2]) (xsQv X (wK X kIsKept kIsStale hiLatest hiSize scBytes scTold scLength scFault scAt scNumber piSegmentsNow enKind enX enY enLower enFromX enFromY enToX enToY out.1 out.2.1 out.2.2.1 out.2.2.2 tiSize evX evY evLower evBundle evCrossingOf evEventOf evLeftEvent evRightEvent evSize evCrossings evSegmentsNow grDegree grEdges grFar grQueue grQueued huX huY huSize huBestX huBestY S Rw)) 0 0 (xsF X) := by
  refine xs_meth RX9 (by decide) rfl (Nat.le_of_ble_eq_true rfl) ?_
  intro p e s m below meth c ls H locs C hP hD hS hr hlk hl
  have hx := C.1
  have hb := C.2.1
  have hl : lv_has ls 4 [(0, .ref (xsA X 8)), (1, .int a0), (2, .int a1), (3, .int a2)] := hl
  obtain ⟨Qq, hQq⟩ : ∃ Qq, Qq = xsQv X (wK X kIsKept kIsStale hiLatest hiSize scBytes scTold scLength scFault scAt scNumber piSegmentsNow enKind enX enY enLower enFromX enFromY enToX enToY out.1 out.2.1 out.2.2.1 out.2.2.2 tiSize evX evY evLower evBundle evCrossingOf evEventOf evLeftEvent evRightEvent evSize evCrossings evSegmentsNow grDegree grEdges grFar grQueue grQueued huX huY huSize huBestX huBestY S Rw) := ⟨_, rfl⟩
  rw [← hQq]
  unfold fX9_note at hf
  refine lv_iload_n hx hb dX9_note_0 rfl (lv_at hl 3 rfl) ?_
  refine lv_if_ne (tgt := 5) hx hb dX9_note_1 (by decide) (fun c16 => ?_) (fun c16 => ?_)
  · replace hf := xsBr_f c16 hf
    refine lv_aload_n hx hb dX9_note_5 rfl (lv_at hl 0 rfl) ?_
    refine xg_X9_9 C hP dX9_note_6 ?_
    refine lv_iload_n hx hb dX9_note_9 rfl (lv_at hl 1 rfl) ?_
    refine lv_dup2_11 hx hb dX9_note_10 rfl rfl ?_
    replace hf := xsCk_use hf
    obtain ⟨h1, hf⟩ := hf
    refine xl_tiTouching C hP h1 dX9_note_11 ?_
    refine lv_iconst (v := (1 : Int32)) hx hb dX9_note_12 (by decide) ?_
    refine lv_iload_n hx hb dX9_note_13 rfl (lv_at hl 2 rfl) ?_
    refine lv_ishl hx hb dX9_note_14 ?_
    refine lv_ior hx hb dX9_note_15 ?_
    replace hf := xsCk_use hf
    obtain ⟨h2, hf⟩ := hf
    refine xs_tiTouching C hP hD hS h2 dX9_note_16 (fun f3 ef3 H locs hP hD hS => ?_)
    replace hf := xsLt_use ef3 hf
    refine lv_aload_n hx hb dX9_note_17 rfl (lv_at hl 0 rfl) ?_
    refine xg_X9_9 C hP dX9_note_18 ?_
    refine lv_iload_n hx hb dX9_note_21 rfl (lv_at hl 2 rfl) ?_
    refine lv_dup2_11 hx hb dX9_note_22 rfl rfl ?_
    replace hf := xsCk_use hf
    obtain ⟨h4, hf⟩ := hf
    refine xl_tiTouching C hP h4 dX9_note_23 ?_
    refine lv_iconst (v := (1 : Int32)) hx hb dX9_note_24 (by decide) ?_
    refine lv_iload_n hx hb dX9_note_25 rfl (lv_at hl 1 rfl) ?_
    refine lv_ishl hx hb dX9_note_26 ?_
    refine lv_ior hx hb dX9_note_27 ?_
    replace hf := xsCk_use hf
    obtain ⟨h5, hf⟩ := hf
    refine xs_tiTouching C hP hD hS h5 dX9_note_28 (fun f6 ef6 H locs hP hD hS => ?_)
    replace hf := xsLt_use ef6 hf
    refine lv_iload_n hx hb dX9_note_29 rfl (lv_at hl 3 rfl) ?_
    refine lv_iconst (v := (1 : Int32)) hx hb dX9_note_30 (by decide) ?_
    refine lv_icmp_ne (tgt := 45) hx hb dX9_note_31 (by decide) (fun c15 => ?_) (fun c15 => ?_)
    · replace hf := xsBr_f c15 hf
      refine lv_aload_n hx hb dX9_note_45 rfl (lv_at hl 0 rfl) ?_
      refine xg_X9_15 C hP dX9_note_46 ?_
      refine lv_iload_n hx hb dX9_note_49 rfl (lv_at hl 1 rfl) ?_
      refine lv_dup2_11 hx hb dX9_note_50 rfl rfl ?_
      replace hf := xsCk_use hf
      obtain ⟨h7, hf⟩ := hf
      refine xl_tiLyingAlong C hP h7 dX9_note_51 ?_
      refine lv_iconst (v := (1 : Int32)) hx hb dX9_note_52 (by decide) ?_
      refine lv_iload_n hx hb dX9_note_53 rfl (lv_at hl 2 rfl) ?_
      refine lv_ishl hx hb dX9_note_54 ?_
      refine lv_ior hx hb dX9_note_55 ?_
      replace hf := xsCk_use hf
      obtain ⟨h8, hf⟩ := hf
      refine xs_tiLyingAlong C hP hD hS h8 dX9_note_56 (fun f9 ef9 H locs hP hD hS => ?_)
      replace hf := xsLt_use ef9 hf
      refine lv_aload_n hx hb dX9_note_57 rfl (lv_at hl 0 rfl) ?_
      refine xg_X9_15 C hP dX9_note_58 ?_
      refine lv_iload_n hx hb dX9_note_61 rfl (lv_at hl 2 rfl) ?_
      refine lv_dup2_11 hx hb dX9_note_62 rfl rfl ?_
      replace hf := xsCk_use hf
      obtain ⟨h10, hf⟩ := hf
      refine xl_tiLyingAlong C hP h10 dX9_note_63 ?_
      refine lv_iconst (v := (1 : Int32)) hx hb dX9_note_64 (by decide) ?_
      refine lv_iload_n hx hb dX9_note_65 rfl (lv_at hl 1 rfl) ?_
      refine lv_ishl hx hb dX9_note_66 ?_
      refine lv_ior hx hb dX9_note_67 ?_
      replace hf := xsCk_use hf
      obtain ⟨h11, hf⟩ := hf
      refine xs_tiLyingAlong C hP hD hS h11 dX9_note_68 (fun f12 ef12 H locs hP hD hS => ?_)
      replace hf := xsLt_use ef12 hf
      refine lv_aload_n hx hb dX9_note_69 rfl (lv_at hl 0 rfl) ?_
      refine lv_dup hx hb dX9_note_70 rfl ?_
      refine xg_X9_22 C hP dX9_note_71 ?_
      refine lv_iconst (v := (1 : Int32)) hx hb dX9_note_74 (by decide) ?_
      refine lv_iadd hx hb dX9_note_75 ?_
      refine lv_topi (fun x13 ex13 => ?_)
      replace hf := xsLt_use ex13 hf
      refine xp_X9_22 C hP hD hS dX9_note_76 (fun H locs hP hD hS => ?_)
      have ho := Option.some.inj hf
      subst ho
      rw [hQq]
      exact xs_vret C hr hlk hP hD hS dX9_note_79
    · replace hf := xsBr_t c15 hf
      refine lv_aload_n hx hb dX9_note_34 rfl (lv_at hl 0 rfl) ?_
      refine lv_dup hx hb dX9_note_35 rfl ?_
      refine xg_X9_18 C hP dX9_note_36 ?_
      refine lv_iconst (v := (1 : Int32)) hx hb dX9_note_39 (by decide) ?_
      refine lv_iadd hx hb dX9_note_40 ?_
      refine lv_topi (fun x14 ex14 => ?_)
      replace hf := xsLt_use ex14 hf
      refine xp_X9_18 C hP hD hS dX9_note_41 (fun H locs hP hD hS => ?_)
      have ho := Option.some.inj hf
      subst ho
      rw [hQq]
      exact xs_vret C hr hlk hP hD hS dX9_note_44
  · replace hf := xsBr_t c16 hf
    have ho := Option.some.inj hf
    subst ho
    rw [hQq]
    exact xs_vret C hr hlk hP hD hS dX9_note_4
set_option maxRecDepth 100000 in
set_option maxHeartbeats 8000000 in
theorem mX5_draw (l : Launch) {X : xsX} {kIsKept kIsStale hiLatest hiSize scLength scFault scAt scNumber piSegmentsNow enKind enFromX enFromY enToX enToY tiMeetingPairs tiAlongPairs tiSize evSize evCrossings evSegmentsNow grEdges grQueued huSize huBestX huBestY : Int32} {scBytes scTold tiTouching tiLyingAlong evBundle evCrossingOf evEventOf evLeftEvent evRightEvent grDegree grFar grQueue huX huY : Nat → Int32} {enX enY enLower : Int64} {evX evY evLower : Nat → Int64} {S : Nat → xsV} {Rw : va_W} {js : Nat} (hjs : js < 12) {sLx sLy sRx sRy sTi : Nat → Int32} {sSz : Int32} (hs_s : S js = (sLx, sLy, sRx, sRy, sTi, sSz)) {out : Int32 × Int32 × Int64 × Int64 × Int64 × Int32 × Int32 × Int32 × Int32 × (Nat → Int32) × (Nat → Int32) × Int32 × Int32 × Int32 × (Nat → Int64) × (Nat → Int64) × (Nat → Int64) × (Nat → Int32) × (Nat → Int32) × (Nat → Int32) × (Nat → Int32) × (Nat → Int32) × Int32 × Int32 × Int32 × (Nat → Int32) × Int32} (hf : fX5_draw piSegmentsNow enKind enX enY enLower enFromX enFromY enToX enToY tiTouching tiLyingAlong tiMeetingPairs tiAlongPairs tiSize evX evY evLower evBundle evCrossingOf evEventOf evLeftEvent evRightEvent evSize evCrossings evSegmentsNow grDegree grEdges sLx sLy sRx sRy sSz = some out) : Met l yX5_draw (xsWs yX5_draw cX5_draw 4 none) { frames := 4, cells := 0, slots := 0, locals := 110 } (xsP X (wK X kIsKept kIsStale hiLatest hiSize scBytes scTold scLength scFault scAt scNumber piSegmentsNow enKind enX enY enLower enFromX enFromY enToX enToY tiTouching tiLyingAlong tiMeetingPairs tiAlongPairs tiSize evX evY evLower evBundle evCrossingOf evEventOf evLeftEvent evRightEvent evSize evCrossings evSegmentsNow grDegree grEdges grFar grQueue grQueued huX huY huSize huBestX huBestY S Rw) [.ref (xsA X 6), .ref (xsA X (27 + 6 * js))]) (xsQv X (wK X kIsKept kIsStale hiLatest hiSize scBytes scTold scLength scFault scAt scNumber out.1 out.2.1 out.2.2.1 out.2.2.2.1 out.2.2.2.2.1 out.2.2.2.2.2.1 out.2.2.2.2.2.2.1 out.2.2.2.2.2.2.2.1 out.2.2.2.2.2.2.2.2.1 out.2.2.2.2.2.2.2.2.2.1 out.2.2.2.2.2.2.2.2.2.2.1 out.2.2.2.2.2.2.2.2.2.2.2.1 out.2.2.2.2.2.2.2.2.2.2.2.2.1 out.2.2.2.2.2.2.2.2.2.2.2.2.2.1 out.2.2.2.2.2.2.2.2.2.2.2.2.2.2.1 out.2.2.2.2.2.2.2.2.2.2.2.2.2.2.2.1 out.2.2.2.2.2.2.2.2.2.2.2.2.2.2.2.2.1 out.2.2.2.2.2.2.2.2.2.2.2.2.2.2.2.2.2.1 out.2.2.2.2.2.2.2.2.2.2.2.2.2.2.2.2.2.2.1 out.2.2.2.2.2.2.2.2.2.2.2.2.2.2.2.2.2.2.2.1 out.2.2.2.2.2.2.2.2.2.2.2.2.2.2.2.2.2.2.2.2.1 out.2.2.2.2.2.2.2.2.2.2.2.2.2.2.2.2.2.2.2.2.2.1 out.2.2.2.2.2.2.2.2.2.2.2.2.2.2.2.2.2.2.2.2.2.2.1 out.2.2.2.2.2.2.2.2.2.2.2.2.2.2.2.2.2.2.2.2.2.2.2.1 out.2.2.2.2.2.2.2.2.2.2.2.2.2.2.2.2.2.2.2.2.2.2.2.2.1 out.2.2.2.2.2.2.2.2.2.2.2.2.2.2.2.2.2.2.2.2.2.2.2.2.2.1 out.2.2.2.2.2.2.2.2.2.2.2.2.2.2.2.2.2.2.2.2.2.2.2.2.2.2 grFar grQueue grQueued huX huY huSize huBestX huBestY S Rw)) 0 0 (xsF X) := by
  refine xs_meth RX5 (by decide) rfl (Nat.le_of_ble_eq_true rfl) ?_
  intro p e s m below meth c ls H locs C hP hD hS hr hlk hl
  have hx := C.1
  have hb := C.2.1
  have hl : lv_has ls 4 [(0, .ref (xsA X 6)), (1, .ref (xsA X (27 + 6 * js)))] := hl
  obtain ⟨Qq, hQq⟩ : ∃ Qq, Qq = xsQv X (wK X kIsKept kIsStale hiLatest hiSize scBytes scTold scLength scFault scAt scNumber out.1 out.2.1 out.2.2.1 out.2.2.2.1 out.2.2.2.2.1 out.2.2.2.2.2.1 out.2.2.2.2.2.2.1 out.2.2.2.2.2.2.2.1 out.2.2.2.2.2.2.2.2.1 out.2.2.2.2.2.2.2.2.2.1 out.2.2.2.2.2.2.2.2.2.2.1 out.2.2.2.2.2.2.2.2.2.2.2.1 out.2.2.2.2.2.2.2.2.2.2.2.2.1 out.2.2.2.2.2.2.2.2.2.2.2.2.2.1 out.2.2.2.2.2.2.2.2.2.2.2.2.2.2.1 out.2.2.2.2.2.2.2.2.2.2.2.2.2.2.2.1 out.2.2.2.2.2.2.2.2.2.2.2.2.2.2.2.2.1 out.2.2.2.2.2.2.2.2.2.2.2.2.2.2.2.2.2.1 out.2.2.2.2.2.2.2.2.2.2.2.2.2.2.2.2.2.2.1 out.2.2.2.2.2.2.2.2.2.2.2.2.2.2.2.2.2.2.2.1 out.2.2.2.2.2.2.2.2.2.2.2.2.2.2.2.2.2.2.2.2.1 out.2.2.2.2.2.2.2.2.2.2.2.2.2.2.2.2.2.2.2.2.2.1 out.2.2.2.2.2.2.2.2.2.2.2.2.2.2.2.2.2.2.2.2.2.2.1 out.2.2.2.2.2.2.2.2.2.2.2.2.2.2.2.2.2.2.2.2.2.2.2.1 out.2.2.2.2.2.2.2.2.2.2.2.2.2.2.2.2.2.2.2.2.2.2.2.2.1 out.2.2.2.2.2.2.2.2.2.2.2.2.2.2.2.2.2.2.2.2.2.2.2.2.2.1 out.2.2.2.2.2.2.2.2.2.2.2.2.2.2.2.2.2.2.2.2.2.2.2.2.2.2 grFar grQueue grQueued huX huY huSize huBestX huBestY S Rw) := ⟨_, rfl⟩
  rw [← hQq]
  unfold fX5_draw at hf
  refine lv_aload_n hx hb dX5_draw_0 rfl (lv_at hl 0 rfl) ?_
  refine lv_aload_n hx hb dX5_draw_1 rfl (lv_at hl 1 rfl) ?_
  refine xg_X5_43 (j := js) hjs hs_s C hP dX5_draw_2 ?_
  refine xp_X5_39 C hP hD hS dX5_draw_5 (fun H locs hP hD hS => ?_)
  refine lv_aload_n hx hb dX5_draw_8 rfl (lv_at hl 0 rfl) ?_
  refine xg_X5_21 C hP dX5_draw_9 ?_
  refine lv_aload_n hx hb dX5_draw_12 rfl (lv_at hl 0 rfl) ?_
  refine xg_X5_39 C hP dX5_draw_13 ?_
  replace hf := xsBd_use hf
  obtain ⟨o1, h2, hf⟩ := hf
  refine xs_callv hS (xs_runV (As := [.int sSz]) C (mX9_clear l  h2) w_543 w_544 w_545 w_111 w_546 hd_X9_clear ⟨rfl, rfl, Nat.le_of_ble_eq_true rfl, Nat.le_of_ble_eq_true rfl, Nat.zero_le _, Nat.zero_le _⟩ hP hD hS lk_X9 rfl hl.1 rfl (Nat.le_of_ble_eq_true rfl) dX5_draw_16) (fun H locs hP hD hS => ?_)
  refine lv_aload_n hx hb dX5_draw_19 rfl (lv_at hl 0 rfl) ?_
  refine xg_X5_28 C hP dX5_draw_20 ?_
  replace hf := xsBd_use hf
  obtain ⟨o3, h4, hf⟩ := hf
  refine xs_callv hS (xs_runV (As := []) C (mX1_clear l  h4) w_547 w_548 w_549 w_112 w_550 hd_X1_clear ⟨rfl, rfl, Nat.le_of_ble_eq_true rfl, Nat.le_of_ble_eq_true rfl, Nat.zero_le _, Nat.zero_le _⟩ hP hD hS lk_X1 rfl hl.1 rfl (Nat.le_of_ble_eq_true rfl) dX5_draw_23) (fun H locs hP hD hS => ?_)
  refine lv_iconst (v := (0 : Int32)) hx hb dX5_draw_26 (by decide) ?_
  refine lv_istore_n (lv' := [(2, .int (0 : Int32)), (0, .ref (xsA X 6)), (1, .ref (xsA X (27 + 6 * js)))]) hx hb dX5_draw_27 rfl hl (by decide) rfl (fun ls hl => ?_)
  have K22 : ∀ (y23 : Int32) (y24 : Int64) (y25 : Int64) (y26 : Int64) (y27 : Int32) (y28 : Int32) (y29 : Int32) (y30 : Int32) (y31 : Nat → Int32) (y32 : Nat → Int32) (y33 : Int32) (y34 : Int32) (y35 : Nat → Int64) (y36 : Nat → Int64) (y37 : Nat → Int64) (y38 : Int32) (hf : fX5_draw_J165 evBundle evCrossingOf evEventOf evLeftEvent evRightEvent grDegree grEdges sLx sLy sRx sRy sSz o1 o3 y23 y24 y25 y26 y27 y28 y29 y30 y31 y32 y33 y34 y35 y36 y37 y38 = some out) (H : Heap) (locs : List Loc) (ls : Array Slot), va_P (xsD X) vwCl (wK X kIsKept kIsStale hiLatest hiSize scBytes scTold scLength scFault scAt scNumber sSz y23 y24 y25 y26 y27 y28 y29 y30 y31 y32 y33 y34 o1.2.2.2.2 y35 y36 y37 evBundle evCrossingOf evEventOf evLeftEvent evRightEvent y38 o3.2.1 o3.2.2 grDegree grEdges grFar grQueue grQueued huX huY huSize huBestX huBestY S Rw) H → va_D (xsF X) (wK X kIsKept kIsStale hiLatest hiSize scBytes scTold scLength scFault scAt scNumber sSz y23 y24 y25 y26 y27 y28 y29 y30 y31 y32 y33 y34 o1.2.2.2.2 y35 y36 y37 evBundle evCrossingOf evEventOf evLeftEvent evRightEvent y38 o3.2.1 o3.2.2 grDegree grEdges grFar grQueue grQueued huX huY huSize huBestX huBestY S Rw) → va_S (xsF X) s.heap H locs → lv_has ls 4 [(0, .ref (xsA X 6)), (1, .ref (xsA X (27 + 6 * js)))] → W p l e { frames := 4, cells := 0, slots := 0, locals := 110 } s m ([.ref (xsA X 6), .ref (xsA X (27 + 6 * js))] : List Value).toArray below meth c H locs 0 0 (MQ below Qq ([.ref (xsA X 6), .ref (xsA X (27 + 6 * js))] : List Value).toArray s 0 0 (xsF X)) (F0 m 165 ls []) := by
    intro y23 y24 y25 y26 y27 y28 y29 y30 y31 y32 y33 y34 y35 y36 y37 y38 hf H locs ls hP hD hS hl
    unfold fX5_draw_J165 at hf
    refine lv_aload_n hx hb dX5_draw_165 rfl (lv_at hl 0 rfl) ?_
    refine xg_X5_28 C hP dX5_draw_166 ?_
    refine lv_aload_n hx hb dX5_draw_169 rfl (lv_at hl 1 rfl) ?_
    refine lv_aload_n hx hb dX5_draw_170 rfl (lv_at hl 0 rfl) ?_
    refine xg_X5_21 C hP dX5_draw_171 ?_
    replace hf := xsBd_use hf
    obtain ⟨o39, h40, hf⟩ := hf
    refine xs_callv hS (xs_runV (As := [.ref (xsA X (27 + 6 * js)), .ref (xsA X 8)]) C (mX1_gather l (js := js) hjs hs_s h40) w_586 w_587 w_588 w_112 w_589 hd_X1_gather ⟨rfl, rfl, Nat.le_of_ble_eq_true rfl, Nat.le_of_ble_eq_true rfl, Nat.zero_le _, Nat.zero_le _⟩ hP hD hS lk_X1 rfl hl.1 rfl (Nat.le_of_ble_eq_true rfl) dX5_draw_174) (fun H locs hP hD hS => ?_)
    refine lv_aload_n hx hb dX5_draw_177 rfl (lv_at hl 0 rfl) ?_
    refine xg_X5_35 C hP dX5_draw_178 ?_
    refine lv_aload_n hx hb dX5_draw_181 rfl (lv_at hl 0 rfl) ?_
    refine xg_X5_28 C hP dX5_draw_182 ?_
    refine lv_aload_n hx hb dX5_draw_185 rfl (lv_at hl 0 rfl) ?_
    refine xg_X5_39 C hP dX5_draw_186 ?_
    replace hf := xsBd_use hf
    obtain ⟨o41, h42, hf⟩ := hf
    refine xs_callv hS (xs_runV (As := [.ref (xsA X 11), .int sSz]) C (mX2_draw l  h42) w_613 w_614 w_615 w_113 w_616 hd_X2_draw ⟨rfl, rfl, Nat.le_of_ble_eq_true rfl, Nat.le_of_ble_eq_true rfl, Nat.zero_le _, Nat.zero_le _⟩ hP hD hS lk_X2 rfl hl.1 rfl (Nat.le_of_ble_eq_true rfl) dX5_draw_189) (fun H locs hP hD hS => ?_)
    have ho := Option.some.inj hf
    subst ho
    rw [hQq]
    exact xs_vret C hr hlk hP hD hS dX5_draw_192
  replace hf := xsBd_use hf
  obtain ⟨r22, hk220, hf⟩ := hf
  have L22 : ∀ (sg : Int32 × Int32 × Int64 × Int64 × Int64 × Int32 × Int32 × Int32 × Int32 × (Nat → Int32) × (Nat → Int32) × Int32 × Int32 × (Nat → Int64) × (Nat → Int64) × (Nat → Int64) × Int32) (rg : Int32 × Int64 × Int64 × Int64 × Int32 × Int32 × Int32 × Int32 × (Nat → Int32) × (Nat → Int32) × Int32 × Int32 × (Nat → Int64) × (Nat → Int64) × (Nat → Int64) × Int32), xsWh (fun s22 => fX5_draw_L28 sLx sLy sRx sRy sSz s22.1 s22.2.1 s22.2.2.1 s22.2.2.2.1 s22.2.2.2.2.1 s22.2.2.2.2.2.1 s22.2.2.2.2.2.2.1 s22.2.2.2.2.2.2.2.1 s22.2.2.2.2.2.2.2.2.1 s22.2.2.2.2.2.2.2.2.2.1 s22.2.2.2.2.2.2.2.2.2.2.1 s22.2.2.2.2.2.2.2.2.2.2.2.1 s22.2.2.2.2.2.2.2.2.2.2.2.2.1 s22.2.2.2.2.2.2.2.2.2.2.2.2.2.1 s22.2.2.2.2.2.2.2.2.2.2.2.2.2.2.1 s22.2.2.2.2.2.2.2.2.2.2.2.2.2.2.2.1 s22.2.2.2.2.2.2.2.2.2.2.2.2.2.2.2.2) sg = some rg → (fX5_draw_J165 evBundle evCrossingOf evEventOf evLeftEvent evRightEvent grDegree grEdges sLx sLy sRx sRy sSz o1 o3 rg.1 rg.2.1 rg.2.2.1 rg.2.2.2.1 rg.2.2.2.2.1 rg.2.2.2.2.2.1 rg.2.2.2.2.2.2.1 rg.2.2.2.2.2.2.2.1 rg.2.2.2.2.2.2.2.2.1 rg.2.2.2.2.2.2.2.2.2.1 rg.2.2.2.2.2.2.2.2.2.2.1 rg.2.2.2.2.2.2.2.2.2.2.2.1 rg.2.2.2.2.2.2.2.2.2.2.2.2.1 rg.2.2.2.2.2.2.2.2.2.2.2.2.2.1 rg.2.2.2.2.2.2.2.2.2.2.2.2.2.2.1 rg.2.2.2.2.2.2.2.2.2.2.2.2.2.2.2 = some out → ∀ (H : Heap) (locs : List Loc) (ls : Array Slot), va_P (xsD X) vwCl (wK X kIsKept kIsStale hiLatest hiSize scBytes scTold scLength scFault scAt scNumber sSz sg.2.1 sg.2.2.1 sg.2.2.2.1 sg.2.2.2.2.1 sg.2.2.2.2.2.1 sg.2.2.2.2.2.2.1 sg.2.2.2.2.2.2.2.1 sg.2.2.2.2.2.2.2.2.1 sg.2.2.2.2.2.2.2.2.2.1 sg.2.2.2.2.2.2.2.2.2.2.1 sg.2.2.2.2.2.2.2.2.2.2.2.1 sg.2.2.2.2.2.2.2.2.2.2.2.2.1 o1.2.2.2.2 sg.2.2.2.2.2.2.2.2.2.2.2.2.2.1 sg.2.2.2.2.2.2.2.2.2.2.2.2.2.2.1 sg.2.2.2.2.2.2.2.2.2.2.2.2.2.2.2.1 evBundle evCrossingOf evEventOf evLeftEvent evRightEvent sg.2.2.2.2.2.2.2.2.2.2.2.2.2.2.2.2 o3.2.1 o3.2.2 grDegree grEdges grFar grQueue grQueued huX huY huSize huBestX huBestY S Rw) H → va_D (xsF X) (wK X kIsKept kIsStale hiLatest hiSize scBytes scTold scLength scFault scAt scNumber sSz sg.2.1 sg.2.2.1 sg.2.2.2.1 sg.2.2.2.2.1 sg.2.2.2.2.2.1 sg.2.2.2.2.2.2.1 sg.2.2.2.2.2.2.2.1 sg.2.2.2.2.2.2.2.2.1 sg.2.2.2.2.2.2.2.2.2.1 sg.2.2.2.2.2.2.2.2.2.2.1 sg.2.2.2.2.2.2.2.2.2.2.2.1 sg.2.2.2.2.2.2.2.2.2.2.2.2.1 o1.2.2.2.2 sg.2.2.2.2.2.2.2.2.2.2.2.2.2.1 sg.2.2.2.2.2.2.2.2.2.2.2.2.2.2.1 sg.2.2.2.2.2.2.2.2.2.2.2.2.2.2.2.1 evBundle evCrossingOf evEventOf evLeftEvent evRightEvent sg.2.2.2.2.2.2.2.2.2.2.2.2.2.2.2.2 o3.2.1 o3.2.2 grDegree grEdges grFar grQueue grQueued huX huY huSize huBestX huBestY S Rw) → va_S (xsF X) s.heap H locs → lv_has ls 4 [(0, .ref (xsA X 6)), (1, .ref (xsA X (27 + 6 * js))), (2, .int sg.1)] → W p l e { frames := 4, cells := 0, slots := 0, locals := 110 } s m ([.ref (xsA X 6), .ref (xsA X (27 + 6 * js))] : List Value).toArray below meth c H locs 0 0 (MQ below Qq ([.ref (xsA X 6), .ref (xsA X (27 + 6 * js))] : List Value).toArray s 0 0 (xsF X)) (F0 m 28 ls [])) := by
    refine xsWh_ind ?_
    intro sg r22 u22 hf ih22 hx22 hk22 H locs ls hP hD hS hl
    obtain ⟨y5, y6, y7, y8, y9, y10, y11, y12, y13, y14, y15, y16, y17, y18, y19, y20, y21⟩ := sg
    replace hf : fX5_draw_L28 sLx sLy sRx sRy sSz y5 y6 y7 y8 y9 y10 y11 y12 y13 y14 y15 y16 y17 y18 y19 y20 y21 = some u22 := hf
    replace hl : lv_has ls 4 [(0, .ref (xsA X 6)), (1, .ref (xsA X (27 + 6 * js))), (2, .int y5)] := hl
    replace hP : va_P (xsD X) vwCl (wK X kIsKept kIsStale hiLatest hiSize scBytes scTold scLength scFault scAt scNumber sSz y6 y7 y8 y9 y10 y11 y12 y13 y14 y15 y16 y17 o1.2.2.2.2 y18 y19 y20 evBundle evCrossingOf evEventOf evLeftEvent evRightEvent y21 o3.2.1 o3.2.2 grDegree grEdges grFar grQueue grQueued huX huY huSize huBestX huBestY S Rw) H := hP
    replace hD : va_D (xsF X) (wK X kIsKept kIsStale hiLatest hiSize scBytes scTold scLength scFault scAt scNumber sSz y6 y7 y8 y9 y10 y11 y12 y13 y14 y15 y16 y17 o1.2.2.2.2 y18 y19 y20 evBundle evCrossingOf evEventOf evLeftEvent evRightEvent y21 o3.2.1 o3.2.2 grDegree grEdges grFar grQueue grQueued huX huY huSize huBestX huBestY S Rw) := hD
    unfold fX5_draw_L28 at hf
    refine lv_iload_n hx hb dX5_draw_28 rfl (lv_at hl 2 rfl) ?_
    refine lv_aload_n hx hb dX5_draw_29 rfl (lv_at hl 0 rfl) ?_
    refine xg_X5_39 C hP dX5_draw_30 ?_
    refine lv_icmp_ge (tgt := 165) hx hb dX5_draw_33 (by decide) (fun c102 => ?_) (fun c102 => ?_)
    · replace hf := xsBr_t c102 hf
      have ez := hx22 _ (Option.some.inj hf).symm
      subst ez
      exact K22 y6 y7 y8 y9 y10 y11 y12 y13 y14 y15 y16 y17 y18 y19 y20 y21 hk22 H locs ls hP hD hS (lv_sub hl [0, 1] rfl)
    · replace hf := xsBr_f c102 hf
      refine lv_aload_n hx hb dX5_draw_36 rfl (lv_at hl 0 rfl) ?_
      refine xg_X5_28 C hP dX5_draw_37 ?_
      refine lv_aload_n hx hb dX5_draw_40 rfl (lv_at hl 1 rfl) ?_
      refine xg_X5_54 (j := js) hjs C hP dX5_draw_41 ?_
      refine lv_iload_n hx hb dX5_draw_44 rfl (lv_at hl 2 rfl) ?_
      replace hf := xsCk_use hf
      obtain ⟨h43, hf⟩ := hf
      refine xl_s0 (j := js) hjs hs_s C hP h43 dX5_draw_45 ?_
      refine lv_i2l hx hb dX5_draw_46 rfl ?_
      refine lv_aload_n hx hb dX5_draw_47 rfl (lv_at hl 1 rfl) ?_
      refine xg_X5_58 (j := js) hjs C hP dX5_draw_48 ?_
      refine lv_iload_n hx hb dX5_draw_51 rfl (lv_at hl 2 rfl) ?_
      replace hf := xsCk_use hf
      obtain ⟨h44, hf⟩ := hf
      refine xl_s1 (j := js) hjs hs_s C hP h44 dX5_draw_52 ?_
      refine lv_i2l hx hb dX5_draw_53 rfl ?_
      refine lv_lconst (v := (1 : Int64)) hx hb dX5_draw_54 (by decide) ?_
      replace hf := xsBd_use hf
      obtain ⟨o45, h46, hf⟩ := hf
      refine xs_callv hS (xs_runV (As := [.long (sLx y5.toNatClampNeg).toInt64, .long (sLy y5.toNatClampNeg).toInt64, .long (1 : Int64)]) C (mX1_insert l  h46) w_551 w_552 w_553 w_112 w_554 hd_X1_insert ⟨rfl, rfl, Nat.le_of_ble_eq_true rfl, Nat.le_of_ble_eq_true rfl, Nat.zero_le _, Nat.zero_le _⟩ hP hD hS lk_X1 rfl hl.1 rfl (Nat.le_of_ble_eq_true rfl) dX5_draw_55) (fun H locs hP hD hS => ?_)
      refine lv_aload_n hx hb dX5_draw_58 rfl (lv_at hl 0 rfl) ?_
      refine xg_X5_28 C hP dX5_draw_59 ?_
      refine lv_aload_n hx hb dX5_draw_62 rfl (lv_at hl 1 rfl) ?_
      refine xg_X5_65 (j := js) hjs C hP dX5_draw_63 ?_
      refine lv_iload_n hx hb dX5_draw_66 rfl (lv_at hl 2 rfl) ?_
      replace hf := xsCk_use hf
      obtain ⟨h47, hf⟩ := hf
      refine xl_s2 (j := js) hjs hs_s C hP h47 dX5_draw_67 ?_
      refine lv_i2l hx hb dX5_draw_68 rfl ?_
      refine lv_aload_n hx hb dX5_draw_69 rfl (lv_at hl 1 rfl) ?_
      refine xg_X5_68 (j := js) hjs C hP dX5_draw_70 ?_
      refine lv_iload_n hx hb dX5_draw_73 rfl (lv_at hl 2 rfl) ?_
      replace hf := xsCk_use hf
      obtain ⟨h48, hf⟩ := hf
      refine xl_s3 (j := js) hjs hs_s C hP h48 dX5_draw_74 ?_
      refine lv_i2l hx hb dX5_draw_75 rfl ?_
      refine lv_lconst (v := (1 : Int64)) hx hb dX5_draw_76 (by decide) ?_
      replace hf := xsBd_use hf
      obtain ⟨o49, h50, hf⟩ := hf
      refine xs_callv hS (xs_runV (As := [.long (sRx y5.toNatClampNeg).toInt64, .long (sRy y5.toNatClampNeg).toInt64, .long (1 : Int64)]) C (mX1_insert l  h50) w_551 w_552 w_553 w_112 w_554 hd_X1_insert ⟨rfl, rfl, Nat.le_of_ble_eq_true rfl, Nat.le_of_ble_eq_true rfl, Nat.zero_le _, Nat.zero_le _⟩ hP hD hS lk_X1 rfl hl.1 rfl (Nat.le_of_ble_eq_true rfl) dX5_draw_77) (fun H locs hP hD hS => ?_)
      refine lv_iconst (v := (0 : Int32)) hx hb dX5_draw_80 (by decide) ?_
      refine lv_istore_n (lv' := [(3, .int (0 : Int32)), (0, .ref (xsA X 6)), (1, .ref (xsA X (27 + 6 * js))), (2, .int y5)]) hx hb dX5_draw_81 rfl hl (by decide) rfl (fun ls hl => ?_)
      have K68 : ∀ (y69 : Int32) (y70 : Int64) (y71 : Int64) (y72 : Int64) (y73 : Int32) (y74 : Int32) (y75 : Int32) (y76 : Int32) (y77 : Nat → Int32) (y78 : Nat → Int32) (y79 : Int32) (y80 : Int32) (y81 : Nat → Int64) (y82 : Nat → Int64) (y83 : Nat → Int64) (y84 : Int32) (hf : fX5_draw_J159 y5 y69 y70 y71 y72 y73 y74 y75 y76 y77 y78 y79 y80 y81 y82 y83 y84 = some u22) (H : Heap) (locs : List Loc) (ls : Array Slot), va_P (xsD X) vwCl (wK X kIsKept kIsStale hiLatest hiSize scBytes scTold scLength scFault scAt scNumber sSz y69 y70 y71 y72 y73 y74 y75 y76 y77 y78 y79 y80 o1.2.2.2.2 y81 y82 y83 evBundle evCrossingOf evEventOf evLeftEvent evRightEvent y84 o3.2.1 o3.2.2 grDegree grEdges grFar grQueue grQueued huX huY huSize huBestX huBestY S Rw) H → va_D (xsF X) (wK X kIsKept kIsStale hiLatest hiSize scBytes scTold scLength scFault scAt scNumber sSz y69 y70 y71 y72 y73 y74 y75 y76 y77 y78 y79 y80 o1.2.2.2.2 y81 y82 y83 evBundle evCrossingOf evEventOf evLeftEvent evRightEvent y84 o3.2.1 o3.2.2 grDegree grEdges grFar grQueue grQueued huX huY huSize huBestX huBestY S Rw) → va_S (xsF X) s.heap H locs → lv_has ls 4 [(0, .ref (xsA X 6)), (1, .ref (xsA X (27 + 6 * js))), (2, .int y5)] → W p l e { frames := 4, cells := 0, slots := 0, locals := 110 } s m ([.ref (xsA X 6), .ref (xsA X (27 + 6 * js))] : List Value).toArray below meth c H locs 0 0 (MQ below Qq ([.ref (xsA X 6), .ref (xsA X (27 + 6 * js))] : List Value).toArray s 0 0 (xsF X)) (F0 m 159 ls []) := by
        intro y69 y70 y71 y72 y73 y74 y75 y76 y77 y78 y79 y80 y81 y82 y83 y84 hf H locs ls hP hD hS hl
        unfold fX5_draw_J159 at hf
        obtain ⟨x85, ex85⟩ : ∃ y : Int32, y = y5 + (1 : Int32) := ⟨_, rfl⟩
        replace hf := xsLt_use ex85 hf
        refine lv_iinc (v := x85) (lv' := [(2, .int x85), (0, .ref (xsA X 6)), (1, .ref (xsA X (27 + 6 * js)))]) hx hb dX5_draw_159 hl (k := 2) rfl (by rw [ex85]; rfl) (by decide) rfl (fun ls hl => ?_)
        refine lv_goto (tgt := 28) hx hb dX5_draw_162 (by decide) ?_
        exact ih22 _ (Option.some.inj hf).symm hk22 H locs ls hP hD hS (lv_sub hl [1, 2, 0] rfl)
      replace hf := xsBd_use hf
      obtain ⟨r68, hk680, hf⟩ := hf
      have L68 : ∀ (sg : Int32 × Int32 × Int64 × Int64 × Int64 × Int32 × Int32 × Int32 × Int32 × (Nat → Int32) × (Nat → Int32) × Int32 × Int32 × (Nat → Int64) × (Nat → Int64) × (Nat → Int64) × Int32) (rg : Int32 × Int64 × Int64 × Int64 × Int32 × Int32 × Int32 × Int32 × (Nat → Int32) × (Nat → Int32) × Int32 × Int32 × (Nat → Int64) × (Nat → Int64) × (Nat → Int64) × Int32), xsWh (fun s68 => fX5_draw_L82 sLx sLy sRx sRy y5 s68.1 s68.2.1 s68.2.2.1 s68.2.2.2.1 s68.2.2.2.2.1 s68.2.2.2.2.2.1 s68.2.2.2.2.2.2.1 s68.2.2.2.2.2.2.2.1 s68.2.2.2.2.2.2.2.2.1 s68.2.2.2.2.2.2.2.2.2.1 s68.2.2.2.2.2.2.2.2.2.2.1 s68.2.2.2.2.2.2.2.2.2.2.2.1 s68.2.2.2.2.2.2.2.2.2.2.2.2.1 s68.2.2.2.2.2.2.2.2.2.2.2.2.2.1 s68.2.2.2.2.2.2.2.2.2.2.2.2.2.2.1 s68.2.2.2.2.2.2.2.2.2.2.2.2.2.2.2.1 s68.2.2.2.2.2.2.2.2.2.2.2.2.2.2.2.2) sg = some rg → (fX5_draw_J159 y5 rg.1 rg.2.1 rg.2.2.1 rg.2.2.2.1 rg.2.2.2.2.1 rg.2.2.2.2.2.1 rg.2.2.2.2.2.2.1 rg.2.2.2.2.2.2.2.1 rg.2.2.2.2.2.2.2.2.1 rg.2.2.2.2.2.2.2.2.2.1 rg.2.2.2.2.2.2.2.2.2.2.1 rg.2.2.2.2.2.2.2.2.2.2.2.1 rg.2.2.2.2.2.2.2.2.2.2.2.2.1 rg.2.2.2.2.2.2.2.2.2.2.2.2.2.1 rg.2.2.2.2.2.2.2.2.2.2.2.2.2.2.1 rg.2.2.2.2.2.2.2.2.2.2.2.2.2.2.2 = some u22 → ∀ (H : Heap) (locs : List Loc) (ls : Array Slot), va_P (xsD X) vwCl (wK X kIsKept kIsStale hiLatest hiSize scBytes scTold scLength scFault scAt scNumber sSz sg.2.1 sg.2.2.1 sg.2.2.2.1 sg.2.2.2.2.1 sg.2.2.2.2.2.1 sg.2.2.2.2.2.2.1 sg.2.2.2.2.2.2.2.1 sg.2.2.2.2.2.2.2.2.1 sg.2.2.2.2.2.2.2.2.2.1 sg.2.2.2.2.2.2.2.2.2.2.1 sg.2.2.2.2.2.2.2.2.2.2.2.1 sg.2.2.2.2.2.2.2.2.2.2.2.2.1 o1.2.2.2.2 sg.2.2.2.2.2.2.2.2.2.2.2.2.2.1 sg.2.2.2.2.2.2.2.2.2.2.2.2.2.2.1 sg.2.2.2.2.2.2.2.2.2.2.2.2.2.2.2.1 evBundle evCrossingOf evEventOf evLeftEvent evRightEvent sg.2.2.2.2.2.2.2.2.2.2.2.2.2.2.2.2 o3.2.1 o3.2.2 grDegree grEdges grFar grQueue grQueued huX huY huSize huBestX huBestY S Rw) H → va_D (xsF X) (wK X kIsKept kIsStale hiLatest hiSize scBytes scTold scLength scFault scAt scNumber sSz sg.2.1 sg.2.2.1 sg.2.2.2.1 sg.2.2.2.2.1 sg.2.2.2.2.2.1 sg.2.2.2.2.2.2.1 sg.2.2.2.2.2.2.2.1 sg.2.2.2.2.2.2.2.2.1 sg.2.2.2.2.2.2.2.2.2.1 sg.2.2.2.2.2.2.2.2.2.2.1 sg.2.2.2.2.2.2.2.2.2.2.2.1 sg.2.2.2.2.2.2.2.2.2.2.2.2.1 o1.2.2.2.2 sg.2.2.2.2.2.2.2.2.2.2.2.2.2.1 sg.2.2.2.2.2.2.2.2.2.2.2.2.2.2.1 sg.2.2.2.2.2.2.2.2.2.2.2.2.2.2.2.1 evBundle evCrossingOf evEventOf evLeftEvent evRightEvent sg.2.2.2.2.2.2.2.2.2.2.2.2.2.2.2.2 o3.2.1 o3.2.2 grDegree grEdges grFar grQueue grQueued huX huY huSize huBestX huBestY S Rw) → va_S (xsF X) s.heap H locs → lv_has ls 4 [(0, .ref (xsA X 6)), (1, .ref (xsA X (27 + 6 * js))), (2, .int y5), (3, .int sg.1)] → W p l e { frames := 4, cells := 0, slots := 0, locals := 110 } s m ([.ref (xsA X 6), .ref (xsA X (27 + 6 * js))] : List Value).toArray below meth c H locs 0 0 (MQ below Qq ([.ref (xsA X 6), .ref (xsA X (27 + 6 * js))] : List Value).toArray s 0 0 (xsF X)) (F0 m 82 ls [])) := by
        refine xsWh_ind ?_
        intro sg r68 u68 hf ih68 hx68 hk68 H locs ls hP hD hS hl
        obtain ⟨y51, y52, y53, y54, y55, y56, y57, y58, y59, y60, y61, y62, y63, y64, y65, y66, y67⟩ := sg
        replace hf : fX5_draw_L82 sLx sLy sRx sRy y5 y51 y52 y53 y54 y55 y56 y57 y58 y59 y60 y61 y62 y63 y64 y65 y66 y67 = some u68 := hf
        replace hl : lv_has ls 4 [(0, .ref (xsA X 6)), (1, .ref (xsA X (27 + 6 * js))), (2, .int y5), (3, .int y51)] := hl
        replace hP : va_P (xsD X) vwCl (wK X kIsKept kIsStale hiLatest hiSize scBytes scTold scLength scFault scAt scNumber sSz y52 y53 y54 y55 y56 y57 y58 y59 y60 y61 y62 y63 o1.2.2.2.2 y64 y65 y66 evBundle evCrossingOf evEventOf evLeftEvent evRightEvent y67 o3.2.1 o3.2.2 grDegree grEdges grFar grQueue grQueued huX huY huSize huBestX huBestY S Rw) H := hP
        replace hD : va_D (xsF X) (wK X kIsKept kIsStale hiLatest hiSize scBytes scTold scLength scFault scAt scNumber sSz y52 y53 y54 y55 y56 y57 y58 y59 y60 y61 y62 y63 o1.2.2.2.2 y64 y65 y66 evBundle evCrossingOf evEventOf evLeftEvent evRightEvent y67 o3.2.1 o3.2.2 grDegree grEdges grFar grQueue grQueued huX huY huSize huBestX huBestY S Rw) := hD
        unfold fX5_draw_L82 at hf
        refine lv_iload_n hx hb dX5_draw_82 rfl (lv_at hl 3 rfl) ?_
        refine lv_iload_n hx hb dX5_draw_83 rfl (lv_at hl 2 rfl) ?_
        refine lv_icmp_ge (tgt := 159) hx hb dX5_draw_84 (by decide) (fun c101 => ?_) (fun c101 => ?_)
        · replace hf := xsBr_t c101 hf
          have ez := hx68 _ (Option.some.inj hf).symm
          subst ez
          exact K68 y52 y53 y54 y55 y56 y57 y58 y59 y60 y61 y62 y63 y64 y65 y66 y67 hk68 H locs ls hP hD hS (lv_sub hl [0, 1, 2] rfl)
        · replace hf := xsBr_f c101 hf
          refine lv_aload_n hx hb dX5_draw_87 rfl (lv_at hl 0 rfl) ?_
          refine xg_X5_12 C hP dX5_draw_88 ?_
          refine lv_aload_n hx hb dX5_draw_91 rfl (lv_at hl 1 rfl) ?_
          refine lv_iload_n hx hb dX5_draw_92 rfl (lv_at hl 2 rfl) ?_
          refine lv_aload_n hx hb dX5_draw_93 rfl (lv_at hl 1 rfl) ?_
          refine lv_iload_n hx hb dX5_draw_94 rfl (lv_at hl 3 rfl) ?_
          replace hf := xsBd_use hf
          obtain ⟨o86, h87, hf⟩ := hf
          refine xs_callv hS (xs_runV (As := [.ref (xsA X (27 + 6 * js)), .int y5, .ref (xsA X (27 + 6 * js)), .int y51]) C (mX0_study l (js := js) hjs (jo := js) hjs hs_s hs_s h87) w_566 w_567 w_568 w_110 w_569 hd_X0_study ⟨rfl, rfl, Nat.le_of_ble_eq_true rfl, Nat.le_of_ble_eq_true rfl, Nat.zero_le _, Nat.zero_le _⟩ hP hD hS lk_X0 rfl hl.1 rfl (Nat.le_of_ble_eq_true rfl) dX5_draw_95) (fun H locs hP hD hS => ?_)
          refine lv_aload_n hx hb dX5_draw_98 rfl (lv_at hl 0 rfl) ?_
          refine xg_X5_21 C hP dX5_draw_99 ?_
          refine lv_iload_n hx hb dX5_draw_102 rfl (lv_at hl 2 rfl) ?_
          refine lv_iload_n hx hb dX5_draw_103 rfl (lv_at hl 3 rfl) ?_
          refine lv_aload_n hx hb dX5_draw_104 rfl (lv_at hl 0 rfl) ?_
          refine xg_X5_12 C hP dX5_draw_105 ?_
          refine xg_X5_75 C hP dX5_draw_108 ?_
          replace hf := xsBd_use hf
          obtain ⟨o88, h89, hf⟩ := hf
          refine xs_callv hS (xs_runV (As := [.int y5, .int y51, .int o86.1]) C (mX9_note l  h89) w_582 w_583 w_584 w_111 w_585 hd_X9_note ⟨rfl, rfl, Nat.le_of_ble_eq_true rfl, Nat.le_of_ble_eq_true rfl, Nat.zero_le _, Nat.zero_le _⟩ hP hD hS lk_X9 rfl hl.1 rfl (Nat.le_of_ble_eq_true rfl) dX5_draw_111) (fun H locs hP hD hS => ?_)
          refine lv_aload_n hx hb dX5_draw_114 rfl (lv_at hl 0 rfl) ?_
          refine xg_X5_12 C hP dX5_draw_115 ?_
          refine xg_X5_75 C hP dX5_draw_118 ?_
          refine lv_iconst (v := (1 : Int32)) hx hb dX5_draw_121 (by decide) ?_
          have K97 : ∀ (y90 : Nat → Int64) (y91 : Nat → Int64) (y92 : Nat → Int64) (y93 : Int32) (hf : fX5_draw_J153 y51 o86 o88 y90 y91 y92 y93 = some u68) (H : Heap) (locs : List Loc) (ls : Array Slot), va_P (xsD X) vwCl (wK X kIsKept kIsStale hiLatest hiSize scBytes scTold scLength scFault scAt scNumber sSz o86.1 o86.2.1 o86.2.2.1 o86.2.2.2.1 o86.2.2.2.2.1 o86.2.2.2.2.2.1 o86.2.2.2.2.2.2.1 o86.2.2.2.2.2.2.2 o88.1 o88.2.1 o88.2.2.1 o88.2.2.2 o1.2.2.2.2 y90 y91 y92 evBundle evCrossingOf evEventOf evLeftEvent evRightEvent y93 o3.2.1 o3.2.2 grDegree grEdges grFar grQueue grQueued huX huY huSize huBestX huBestY S Rw) H → va_D (xsF X) (wK X kIsKept kIsStale hiLatest hiSize scBytes scTold scLength scFault scAt scNumber sSz o86.1 o86.2.1 o86.2.2.1 o86.2.2.2.1 o86.2.2.2.2.1 o86.2.2.2.2.2.1 o86.2.2.2.2.2.2.1 o86.2.2.2.2.2.2.2 o88.1 o88.2.1 o88.2.2.1 o88.2.2.2 o1.2.2.2.2 y90 y91 y92 evBundle evCrossingOf evEventOf evLeftEvent evRightEvent y93 o3.2.1 o3.2.2 grDegree grEdges grFar grQueue grQueued huX huY huSize huBestX huBestY S Rw) → va_S (xsF X) s.heap H locs → lv_has ls 4 [(0, .ref (xsA X 6)), (1, .ref (xsA X (27 + 6 * js))), (2, .int y5), (3, .int y51)] → W p l e { frames := 4, cells := 0, slots := 0, locals := 110 } s m ([.ref (xsA X 6), .ref (xsA X (27 + 6 * js))] : List Value).toArray below meth c H locs 0 0 (MQ below Qq ([.ref (xsA X 6), .ref (xsA X (27 + 6 * js))] : List Value).toArray s 0 0 (xsF X)) (F0 m 153 ls []) := by
            intro y90 y91 y92 y93 hf H locs ls hP hD hS hl
            unfold fX5_draw_J153 at hf
            obtain ⟨x94, ex94⟩ : ∃ y : Int32, y = y51 + (1 : Int32) := ⟨_, rfl⟩
            replace hf := xsLt_use ex94 hf
            refine lv_iinc (v := x94) (lv' := [(3, .int x94), (0, .ref (xsA X 6)), (1, .ref (xsA X (27 + 6 * js))), (2, .int y5)]) hx hb dX5_draw_153 hl (k := 3) rfl (by rw [ex94]; rfl) (by decide) rfl (fun ls hl => ?_)
            refine lv_goto (tgt := 82) hx hb dX5_draw_156 (by decide) ?_
            exact ih68 _ (Option.some.inj hf).symm hk68 H locs ls hP hD hS (lv_sub hl [1, 2, 3, 0] rfl)
          replace hf := xsBd_use hf
          obtain ⟨v95, hf, hk96⟩ := hf
          refine lv_icmp_ne (tgt := 153) hx hb dX5_draw_122 (by decide) (fun c100 => ?_) (fun c100 => ?_)
          · replace hf := xsBr_f c100 hf
            have ev := Option.some.inj hf
            subst ev
            exact K97 y64 y65 y66 y67 hk96 H locs ls hP hD hS (lv_sub hl [0, 1, 2, 3] rfl)
          · replace hf := xsBr_t c100 hf
            refine lv_aload_n hx hb dX5_draw_125 rfl (lv_at hl 0 rfl) ?_
            refine xg_X5_28 C hP dX5_draw_126 ?_
            refine lv_aload_n hx hb dX5_draw_129 rfl (lv_at hl 0 rfl) ?_
            refine xg_X5_12 C hP dX5_draw_130 ?_
            refine xg_X5_82 C hP dX5_draw_133 ?_
            refine lv_aload_n hx hb dX5_draw_136 rfl (lv_at hl 0 rfl) ?_
            refine xg_X5_12 C hP dX5_draw_137 ?_
            refine xg_X5_86 C hP dX5_draw_140 ?_
            refine lv_aload_n hx hb dX5_draw_143 rfl (lv_at hl 0 rfl) ?_
            refine xg_X5_12 C hP dX5_draw_144 ?_
            refine xg_X5_89 C hP dX5_draw_147 ?_
            replace hf := xsBd_use hf
            obtain ⟨o98, h99, hf⟩ := hf
            refine xs_callv hS (xs_runV (As := [.long o86.2.1, .long o86.2.2.1, .long o86.2.2.2.1]) C (mX1_insert l  h99) w_551 w_552 w_553 w_112 w_554 hd_X1_insert ⟨rfl, rfl, Nat.le_of_ble_eq_true rfl, Nat.le_of_ble_eq_true rfl, Nat.zero_le _, Nat.zero_le _⟩ hP hD hS lk_X1 rfl hl.1 rfl (Nat.le_of_ble_eq_true rfl) dX5_draw_150) (fun H locs hP hD hS => ?_)
            have ev := Option.some.inj hf
            subst ev
            exact K97 o98.1 o98.2.1 o98.2.2.1 o98.2.2.2 hk96 H locs ls hP hD hS (lv_sub hl [0, 1, 2, 3] rfl)
      exact L68 ((0 : Int32), y6, y7, y8, y9, y10, y11, y12, y13, y14, y15, y16, y17, o49.1, o49.2.1, o49.2.2.1, o49.2.2.2) r68 hk680 hf H locs ls hP hD hS (lv_sub hl [1, 2, 3, 0] rfl)
  exact L22 ((0 : Int32), enKind, enX, enY, enLower, enFromX, enFromY, enToX, enToY, o1.1, o1.2.1, o1.2.2.1, o1.2.2.2.1, evX, evY, evLower, o3.1) r22 hk220 hf H locs ls hP hD hS (lv_sub hl [1, 2, 0] rfl)
set_option maxRecDepth 100000 in
set_option maxHeartbeats 8000000 in
theorem mX9_grown (l : Launch) {X : xsX} {kIsKept kIsStale hiLatest hiSize scLength scFault scAt scNumber piSegmentsNow enKind enFromX enFromY enToX enToY tiMeetingPairs tiAlongPairs tiSize evSize evCrossings evSegmentsNow grEdges grQueued huSize huBestX huBestY : Int32} {scBytes scTold tiTouching tiLyingAlong evBundle evCrossingOf evEventOf evLeftEvent evRightEvent grDegree grFar grQueue huX huY : Nat → Int32} {enX enY enLower : Int64} {evX evY evLower : Nat → Int64} {S : Nat → xsV} {Rw : va_W} {a0 : Int32} {out : Int32} (hf : fX9_grown tiTouching tiSize a0 = some out) : Met l yX9_grown (xsWs yX9_grown cX9_grown 4 (some .int)) { frames := 1, cells := 0, slots := 0, locals := 21 } (xsP X (wK X kIsKept kIsStale hiLatest hiSize scBytes scTold scLength scFault scAt scNumber piSegmentsNow enKind enX enY enLower enFromX enFromY enToX enToY tiTouching tiLyingAlong tiMeetingPairs tiAlongPairs tiSize evX evY evLower evBundle evCrossingOf evEventOf evLeftEvent evRightEvent evSize evCrossings evSegmentsNow grDegree grEdges grFar grQueue grQueued huX huY huSize huBestX huBestY S Rw) [.ref (xsA X 8), .int a0]) (xsQi X out (wK X kIsKept kIsStale hiLatest hiSize scBytes scTold scLength scFault scAt scNumber piSegmentsNow enKind enX enY enLower enFromX enFromY enToX enToY tiTouching tiLyingAlong tiMeetingPairs tiAlongPairs tiSize evX evY evLower evBundle evCrossingOf evEventOf evLeftEvent evRightEvent evSize evCrossings evSegmentsNow grDegree grEdges grFar grQueue grQueued huX huY huSize huBestX huBestY S Rw)) 0 0 (xsF X) := by
  refine xs_meth RX9 (by decide) rfl (Nat.le_of_ble_eq_true rfl) ?_
  intro p e s m below meth c ls H locs C hP hD hS hr hlk hl
  have hx := C.1
  have hb := C.2.1
  have hl : lv_has ls 4 [(0, .ref (xsA X 8)), (1, .int a0)] := hl
  obtain ⟨Qq, hQq⟩ : ∃ Qq, Qq = xsQi X out (wK X kIsKept kIsStale hiLatest hiSize scBytes scTold scLength scFault scAt scNumber piSegmentsNow enKind enX enY enLower enFromX enFromY enToX enToY tiTouching tiLyingAlong tiMeetingPairs tiAlongPairs tiSize evX evY evLower evBundle evCrossingOf evEventOf evLeftEvent evRightEvent evSize evCrossings evSegmentsNow grDegree grEdges grFar grQueue grQueued huX huY huSize huBestX huBestY S Rw) := ⟨_, rfl⟩
  rw [← hQq]
  unfold fX9_grown at hf
  refine lv_iload_n hx hb dX9_grown_0 rfl (lv_at hl 1 rfl) ?_
  refine lv_istore_n (lv' := [(2, .int a0), (0, .ref (xsA X 8)), (1, .int a0)]) hx hb dX9_grown_1 rfl hl (by decide) rfl (fun ls hl => ?_)
  refine lv_iconst (v := (0 : Int32)) hx hb dX9_grown_2 (by decide) ?_
  refine lv_istore_n (lv' := [(3, .int (0 : Int32)), (2, .int a0), (0, .ref (xsA X 8)), (1, .int a0)]) hx hb dX9_grown_3 rfl hl (by decide) rfl (fun ls hl => ?_)
  have K3 : ∀ (y4 : Int32) (hf : fX9_grown_J35 y4 = some out) (H : Heap) (locs : List Loc) (ls : Array Slot), va_P (xsD X) vwCl (wK X kIsKept kIsStale hiLatest hiSize scBytes scTold scLength scFault scAt scNumber piSegmentsNow enKind enX enY enLower enFromX enFromY enToX enToY tiTouching tiLyingAlong tiMeetingPairs tiAlongPairs tiSize evX evY evLower evBundle evCrossingOf evEventOf evLeftEvent evRightEvent evSize evCrossings evSegmentsNow grDegree grEdges grFar grQueue grQueued huX huY huSize huBestX huBestY S Rw) H → va_D (xsF X) (wK X kIsKept kIsStale hiLatest hiSize scBytes scTold scLength scFault scAt scNumber piSegmentsNow enKind enX enY enLower enFromX enFromY enToX enToY tiTouching tiLyingAlong tiMeetingPairs tiAlongPairs tiSize evX evY evLower evBundle evCrossingOf evEventOf evLeftEvent evRightEvent evSize evCrossings evSegmentsNow grDegree grEdges grFar grQueue grQueued huX huY huSize huBestX huBestY S Rw) → va_S (xsF X) s.heap H locs → lv_has ls 4 [(2, .int y4)] → W p l e { frames := 1, cells := 0, slots := 0, locals := 21 } s m ([.ref (xsA X 8), .int a0] : List Value).toArray below meth c H locs 0 0 (MQ below Qq ([.ref (xsA X 8), .int a0] : List Value).toArray s 0 0 (xsF X)) (F0 m 35 ls []) := by
    intro y4 hf H locs ls hP hD hS hl
    unfold fX9_grown_J35 at hf
    refine lv_iload_n hx hb dX9_grown_35 rfl (lv_at hl 0 rfl) ?_
    have ho := Option.some.inj hf
    subst ho
    rw [hQq]
    exact xs_iret C hr hlk hP hD hS dX9_grown_36
  replace hf := xsBd_use hf
  obtain ⟨r3, hk30, hf⟩ := hf
  have L3 : ∀ (sg : Int32 × Int32) (rg : Int32), xsWh (fun s3 => fX9_grown_L4 tiTouching tiSize a0 s3.1 s3.2) sg = some rg → (fX9_grown_J35 rg = some out → ∀ (H : Heap) (locs : List Loc) (ls : Array Slot), va_P (xsD X) vwCl (wK X kIsKept kIsStale hiLatest hiSize scBytes scTold scLength scFault scAt scNumber piSegmentsNow enKind enX enY enLower enFromX enFromY enToX enToY tiTouching tiLyingAlong tiMeetingPairs tiAlongPairs tiSize evX evY evLower evBundle evCrossingOf evEventOf evLeftEvent evRightEvent evSize evCrossings evSegmentsNow grDegree grEdges grFar grQueue grQueued huX huY huSize huBestX huBestY S Rw) H → va_D (xsF X) (wK X kIsKept kIsStale hiLatest hiSize scBytes scTold scLength scFault scAt scNumber piSegmentsNow enKind enX enY enLower enFromX enFromY enToX enToY tiTouching tiLyingAlong tiMeetingPairs tiAlongPairs tiSize evX evY evLower evBundle evCrossingOf evEventOf evLeftEvent evRightEvent evSize evCrossings evSegmentsNow grDegree grEdges grFar grQueue grQueued huX huY huSize huBestX huBestY S Rw) → va_S (xsF X) s.heap H locs → lv_has ls 4 [(0, .ref (xsA X 8)), (1, .int a0), (2, .int sg.1), (3, .int sg.2)] → W p l e { frames := 1, cells := 0, slots := 0, locals := 21 } s m ([.ref (xsA X 8), .int a0] : List Value).toArray below meth c H locs 0 0 (MQ below Qq ([.ref (xsA X 8), .int a0] : List Value).toArray s 0 0 (xsF X)) (F0 m 4 ls [])) := by
    refine xsWh_ind ?_
    intro sg r3 u3 hf ih3 hx3 hk3 H locs ls hP hD hS hl
    obtain ⟨y1, y2⟩ := sg
    replace hf : fX9_grown_L4 tiTouching tiSize a0 y1 y2 = some u3 := hf
    replace hl : lv_has ls 4 [(0, .ref (xsA X 8)), (1, .int a0), (2, .int y1), (3, .int y2)] := hl
    replace hP : va_P (xsD X) vwCl (wK X kIsKept kIsStale hiLatest hiSize scBytes scTold scLength scFault scAt scNumber piSegmentsNow enKind enX enY enLower enFromX enFromY enToX enToY tiTouching tiLyingAlong tiMeetingPairs tiAlongPairs tiSize evX evY evLower evBundle evCrossingOf evEventOf evLeftEvent evRightEvent evSize evCrossings evSegmentsNow grDegree grEdges grFar grQueue grQueued huX huY huSize huBestX huBestY S Rw) H := hP
    replace hD : va_D (xsF X) (wK X kIsKept kIsStale hiLatest hiSize scBytes scTold scLength scFault scAt scNumber piSegmentsNow enKind enX enY enLower enFromX enFromY enToX enToY tiTouching tiLyingAlong tiMeetingPairs tiAlongPairs tiSize evX evY evLower evBundle evCrossingOf evEventOf evLeftEvent evRightEvent evSize evCrossings evSegmentsNow grDegree grEdges grFar grQueue grQueued huX huY huSize huBestX huBestY S Rw) := hD
    unfold fX9_grown_L4 at hf
    refine lv_iload_n hx hb dX9_grown_4 rfl (lv_at hl 3 rfl) ?_
    refine lv_aload_n hx hb dX9_grown_5 rfl (lv_at hl 0 rfl) ?_
    refine xg_X9_25 C hP dX9_grown_6 ?_
    refine lv_icmp_ge (tgt := 35) hx hb dX9_grown_9 (by decide) (fun c15 => ?_) (fun c15 => ?_)
    · replace hf := xsBr_t c15 hf
      have ez := hx3 _ (Option.some.inj hf).symm
      subst ez
      exact K3 y1 hk3 H locs ls hP hD hS (lv_sub hl [2] rfl)
    · replace hf := xsBr_f c15 hf
      refine lv_iload_n hx hb dX9_grown_12 rfl (lv_at hl 1 rfl) ?_
      refine lv_iload_n hx hb dX9_grown_13 rfl (lv_at hl 3 rfl) ?_
      replace hf := xsBd_use hf
      obtain ⟨o5, h6, hf⟩ := hf
      refine xs_calli hS (xs_runSN (As := [.int a0, .int y2]) C (mX10_has l  h6) C.2.2.2.2.2.2.2.1.1 w_605 w_105 w_606 hd_X10_has ⟨rfl, rfl, Nat.le_of_ble_eq_true rfl, Nat.le_of_ble_eq_true rfl, Nat.zero_le _, Nat.zero_le _⟩ hP hD hS hl.1 rfl (Nat.le_of_ble_eq_true rfl) dX9_grown_14) (fun H locs hP hD hS => ?_)
      have K11 : ∀ (y7 : Int32) (hf : fX9_grown_J29 y2 y7 = some u3) (H : Heap) (locs : List Loc) (ls : Array Slot), va_P (xsD X) vwCl (wK X kIsKept kIsStale hiLatest hiSize scBytes scTold scLength scFault scAt scNumber piSegmentsNow enKind enX enY enLower enFromX enFromY enToX enToY tiTouching tiLyingAlong tiMeetingPairs tiAlongPairs tiSize evX evY evLower evBundle evCrossingOf evEventOf evLeftEvent evRightEvent evSize evCrossings evSegmentsNow grDegree grEdges grFar grQueue grQueued huX huY huSize huBestX huBestY S Rw) H → va_D (xsF X) (wK X kIsKept kIsStale hiLatest hiSize scBytes scTold scLength scFault scAt scNumber piSegmentsNow enKind enX enY enLower enFromX enFromY enToX enToY tiTouching tiLyingAlong tiMeetingPairs tiAlongPairs tiSize evX evY evLower evBundle evCrossingOf evEventOf evLeftEvent evRightEvent evSize evCrossings evSegmentsNow grDegree grEdges grFar grQueue grQueued huX huY huSize huBestX huBestY S Rw) → va_S (xsF X) s.heap H locs → lv_has ls 4 [(0, .ref (xsA X 8)), (1, .int a0), (2, .int y7), (3, .int y2)] → W p l e { frames := 1, cells := 0, slots := 0, locals := 21 } s m ([.ref (xsA X 8), .int a0] : List Value).toArray below meth c H locs 0 0 (MQ below Qq ([.ref (xsA X 8), .int a0] : List Value).toArray s 0 0 (xsF X)) (F0 m 29 ls []) := by
        intro y7 hf H locs ls hP hD hS hl
        unfold fX9_grown_J29 at hf
        obtain ⟨x8, ex8⟩ : ∃ y : Int32, y = y2 + (1 : Int32) := ⟨_, rfl⟩
        replace hf := xsLt_use ex8 hf
        refine lv_iinc (v := x8) (lv' := [(3, .int x8), (0, .ref (xsA X 8)), (1, .int a0), (2, .int y7)]) hx hb dX9_grown_29 hl (k := 3) rfl (by rw [ex8]; rfl) (by decide) rfl (fun ls hl => ?_)
        refine lv_goto (tgt := 4) hx hb dX9_grown_32 (by decide) ?_
        exact ih3 _ (Option.some.inj hf).symm hk3 H locs ls hP hD hS (lv_sub hl [1, 2, 3, 0] rfl)
      replace hf := xsBd_use hf
      obtain ⟨v9, hf, hk10⟩ := hf
      refine lv_if_eq (tgt := 29) hx hb dX9_grown_17 (by decide) (fun c14 => ?_) (fun c14 => ?_)
      · replace hf := xsBr_t c14 hf
        have ev := Option.some.inj hf
        subst ev
        exact K11 y1 hk10 H locs ls hP hD hS (lv_sub hl [0, 1, 2, 3] rfl)
      · replace hf := xsBr_f c14 hf
        refine lv_iload_n hx hb dX9_grown_20 rfl (lv_at hl 2 rfl) ?_
        refine lv_aload_n hx hb dX9_grown_21 rfl (lv_at hl 0 rfl) ?_
        refine xg_X9_9 C hP dX9_grown_22 ?_
        refine lv_iload_n hx hb dX9_grown_25 rfl (lv_at hl 3 rfl) ?_
        replace hf := xsCk_use hf
        obtain ⟨h12, hf⟩ := hf
        refine xl_tiTouching C hP h12 dX9_grown_26 ?_
        refine lv_ior hx hb dX9_grown_27 ?_
        refine lv_topi (fun x13 ex13 => ?_)
        replace hf := xsLt_use ex13 hf
        refine lv_istore_n (lv' := [(2, .int x13), (0, .ref (xsA X 8)), (1, .int a0), (3, .int y2)]) hx hb dX9_grown_28 rfl hl (by decide) rfl (fun ls hl => ?_)
        have ev := Option.some.inj hf
        subst ev
        exact K11 x13 hk10 H locs ls hP hD hS (lv_sub hl [1, 2, 0, 3] rfl)
  exact L3 (a0, (0 : Int32)) r3 hk30 hf H locs ls hP hD hS (lv_sub hl [2, 3, 1, 0] rfl)
set_option maxRecDepth 100000 in
set_option maxHeartbeats 8000000 in
theorem mX9_part (l : Launch) {X : xsX} {kIsKept kIsStale hiLatest hiSize scLength scFault scAt scNumber piSegmentsNow enKind enFromX enFromY enToX enToY tiMeetingPairs tiAlongPairs tiSize evSize evCrossings evSegmentsNow grEdges grQueued huSize huBestX huBestY : Int32} {scBytes scTold tiTouching tiLyingAlong evBundle evCrossingOf evEventOf evLeftEvent evRightEvent grDegree grFar grQueue huX huY : Nat → Int32} {enX enY enLower : Int64} {evX evY evLower : Nat → Int64} {S : Nat → xsV} {Rw : va_W} {a0 : Int32} {out : Int32} (hf : fX9_part tiTouching tiSize a0 = some out) : Met l yX9_part (xsWs yX9_part cX9_part 4 (some .int)) { frames := 2, cells := 0, slots := 0, locals := 44 } (xsP X (wK X kIsKept kIsStale hiLatest hiSize scBytes scTold scLength scFault scAt scNumber piSegmentsNow enKind enX enY enLower enFromX enFromY enToX enToY tiTouching tiLyingAlong tiMeetingPairs tiAlongPairs tiSize evX evY evLower evBundle evCrossingOf evEventOf evLeftEvent evRightEvent evSize evCrossings evSegmentsNow grDegree grEdges grFar grQueue grQueued huX huY huSize huBestX huBestY S Rw) [.ref (xsA X 8), .int a0]) (xsQi X out (wK X kIsKept kIsStale hiLatest hiSize scBytes scTold scLength scFault scAt scNumber piSegmentsNow enKind enX enY enLower enFromX enFromY enToX enToY tiTouching tiLyingAlong tiMeetingPairs tiAlongPairs tiSize evX evY evLower evBundle evCrossingOf evEventOf evLeftEvent evRightEvent evSize evCrossings evSegmentsNow grDegree grEdges grFar grQueue grQueued huX huY huSize huBestX huBestY S Rw)) 0 0 (xsF X) := by
  refine xs_meth RX9 (by decide) rfl (Nat.le_of_ble_eq_true rfl) ?_
  intro p e s m below meth c ls H locs C hP hD hS hr hlk hl
  have hx := C.1
  have hb := C.2.1
  have hl : lv_has ls 4 [(0, .ref (xsA X 8)), (1, .int a0)] := hl
  obtain ⟨Qq, hQq⟩ : ∃ Qq, Qq = xsQi X out (wK X kIsKept kIsStale hiLatest hiSize scBytes scTold scLength scFault scAt scNumber piSegmentsNow enKind enX enY enLower enFromX enFromY enToX enToY tiTouching tiLyingAlong tiMeetingPairs tiAlongPairs tiSize evX evY evLower evBundle evCrossingOf evEventOf evLeftEvent evRightEvent evSize evCrossings evSegmentsNow grDegree grEdges grFar grQueue grQueued huX huY huSize huBestX huBestY S Rw) := ⟨_, rfl⟩
  rw [← hQq]
  unfold fX9_part at hf
  refine lv_iconst (v := (1 : Int32)) hx hb dX9_part_0 (by decide) ?_
  refine lv_iload_n hx hb dX9_part_1 rfl (lv_at hl 1 rfl) ?_
  refine lv_ishl hx hb dX9_part_2 ?_
  refine lv_topi (fun x1 ex1 => ?_)
  replace hf := xsLt_use ex1 hf
  refine lv_istore_n (lv' := [(2, .int x1), (0, .ref (xsA X 8)), (1, .int a0)]) hx hb dX9_part_3 rfl hl (by decide) rfl (fun ls hl => ?_)
  refine lv_iconst (v := (0 : Int32)) hx hb dX9_part_4 (by decide) ?_
  refine lv_istore_n (lv' := [(3, .int (0 : Int32)), (2, .int x1), (0, .ref (xsA X 8)), (1, .int a0)]) hx hb dX9_part_5 rfl hl (by decide) rfl (fun ls hl => ?_)
  have K4 : ∀ (y5 : Int32) (hf : fX9_part_J26 y5 = some out) (H : Heap) (locs : List Loc) (ls : Array Slot), va_P (xsD X) vwCl (wK X kIsKept kIsStale hiLatest hiSize scBytes scTold scLength scFault scAt scNumber piSegmentsNow enKind enX enY enLower enFromX enFromY enToX enToY tiTouching tiLyingAlong tiMeetingPairs tiAlongPairs tiSize evX evY evLower evBundle evCrossingOf evEventOf evLeftEvent evRightEvent evSize evCrossings evSegmentsNow grDegree grEdges grFar grQueue grQueued huX huY huSize huBestX huBestY S Rw) H → va_D (xsF X) (wK X kIsKept kIsStale hiLatest hiSize scBytes scTold scLength scFault scAt scNumber piSegmentsNow enKind enX enY enLower enFromX enFromY enToX enToY tiTouching tiLyingAlong tiMeetingPairs tiAlongPairs tiSize evX evY evLower evBundle evCrossingOf evEventOf evLeftEvent evRightEvent evSize evCrossings evSegmentsNow grDegree grEdges grFar grQueue grQueued huX huY huSize huBestX huBestY S Rw) → va_S (xsF X) s.heap H locs → lv_has ls 4 [(2, .int y5)] → W p l e { frames := 2, cells := 0, slots := 0, locals := 44 } s m ([.ref (xsA X 8), .int a0] : List Value).toArray below meth c H locs 0 0 (MQ below Qq ([.ref (xsA X 8), .int a0] : List Value).toArray s 0 0 (xsF X)) (F0 m 26 ls []) := by
    intro y5 hf H locs ls hP hD hS hl
    unfold fX9_part_J26 at hf
    refine lv_iload_n hx hb dX9_part_26 rfl (lv_at hl 0 rfl) ?_
    have ho := Option.some.inj hf
    subst ho
    rw [hQq]
    exact xs_iret C hr hlk hP hD hS dX9_part_27
  replace hf := xsBd_use hf
  obtain ⟨r4, hk40, hf⟩ := hf
  have L4 : ∀ (sg : Int32 × Int32) (rg : Int32), xsWh (fun s4 => fX9_part_L6 tiTouching tiSize s4.1 s4.2) sg = some rg → (fX9_part_J26 rg = some out → ∀ (H : Heap) (locs : List Loc) (ls : Array Slot), va_P (xsD X) vwCl (wK X kIsKept kIsStale hiLatest hiSize scBytes scTold scLength scFault scAt scNumber piSegmentsNow enKind enX enY enLower enFromX enFromY enToX enToY tiTouching tiLyingAlong tiMeetingPairs tiAlongPairs tiSize evX evY evLower evBundle evCrossingOf evEventOf evLeftEvent evRightEvent evSize evCrossings evSegmentsNow grDegree grEdges grFar grQueue grQueued huX huY huSize huBestX huBestY S Rw) H → va_D (xsF X) (wK X kIsKept kIsStale hiLatest hiSize scBytes scTold scLength scFault scAt scNumber piSegmentsNow enKind enX enY enLower enFromX enFromY enToX enToY tiTouching tiLyingAlong tiMeetingPairs tiAlongPairs tiSize evX evY evLower evBundle evCrossingOf evEventOf evLeftEvent evRightEvent evSize evCrossings evSegmentsNow grDegree grEdges grFar grQueue grQueued huX huY huSize huBestX huBestY S Rw) → va_S (xsF X) s.heap H locs → lv_has ls 4 [(0, .ref (xsA X 8)), (2, .int sg.1), (3, .int sg.2)] → W p l e { frames := 2, cells := 0, slots := 0, locals := 44 } s m ([.ref (xsA X 8), .int a0] : List Value).toArray below meth c H locs 0 0 (MQ below Qq ([.ref (xsA X 8), .int a0] : List Value).toArray s 0 0 (xsF X)) (F0 m 6 ls [])) := by
    refine xsWh_ind ?_
    intro sg r4 u4 hf ih4 hx4 hk4 H locs ls hP hD hS hl
    obtain ⟨y2, y3⟩ := sg
    replace hf : fX9_part_L6 tiTouching tiSize y2 y3 = some u4 := hf
    replace hl : lv_has ls 4 [(0, .ref (xsA X 8)), (2, .int y2), (3, .int y3)] := hl
    replace hP : va_P (xsD X) vwCl (wK X kIsKept kIsStale hiLatest hiSize scBytes scTold scLength scFault scAt scNumber piSegmentsNow enKind enX enY enLower enFromX enFromY enToX enToY tiTouching tiLyingAlong tiMeetingPairs tiAlongPairs tiSize evX evY evLower evBundle evCrossingOf evEventOf evLeftEvent evRightEvent evSize evCrossings evSegmentsNow grDegree grEdges grFar grQueue grQueued huX huY huSize huBestX huBestY S Rw) H := hP
    replace hD : va_D (xsF X) (wK X kIsKept kIsStale hiLatest hiSize scBytes scTold scLength scFault scAt scNumber piSegmentsNow enKind enX enY enLower enFromX enFromY enToX enToY tiTouching tiLyingAlong tiMeetingPairs tiAlongPairs tiSize evX evY evLower evBundle evCrossingOf evEventOf evLeftEvent evRightEvent evSize evCrossings evSegmentsNow grDegree grEdges grFar grQueue grQueued huX huY huSize huBestX huBestY S Rw) := hD
    unfold fX9_part_L6 at hf
    refine lv_iload_n hx hb dX9_part_6 rfl (lv_at hl 2 rfl) ?_
    refine lv_aload_n hx hb dX9_part_7 rfl (lv_at hl 0 rfl) ?_
    refine xg_X9_25 C hP dX9_part_8 ?_
    refine lv_icmp_ge (tgt := 26) hx hb dX9_part_11 (by decide) (fun c9 => ?_) (fun c9 => ?_)
    · replace hf := xsBr_t c9 hf
      have ez := hx4 _ (Option.some.inj hf).symm
      subst ez
      exact K4 y2 hk4 H locs ls hP hD hS (lv_sub hl [1] rfl)
    · replace hf := xsBr_f c9 hf
      refine lv_aload_n hx hb dX9_part_14 rfl (lv_at hl 0 rfl) ?_
      refine lv_iload_n hx hb dX9_part_15 rfl (lv_at hl 1 rfl) ?_
      replace hf := xsBd_use hf
      obtain ⟨o6, h7, hf⟩ := hf
      refine xs_calli hS (xs_runV (As := [.int y2]) C (mX9_grown l  h7) w_682 w_684 w_9 w_111 w_685 hd_X9_grown ⟨rfl, rfl, Nat.le_of_ble_eq_true rfl, Nat.le_of_ble_eq_true rfl, Nat.zero_le _, Nat.zero_le _⟩ hP hD hS lk_X9 rfl hl.1 rfl (Nat.le_of_ble_eq_true rfl) dX9_part_16) (fun H locs hP hD hS => ?_)
      refine lv_istore_n (lv' := [(2, .int o6), (0, .ref (xsA X 8)), (3, .int y3)]) hx hb dX9_part_19 rfl hl (by decide) rfl (fun ls hl => ?_)
      obtain ⟨x8, ex8⟩ : ∃ y : Int32, y = y3 + (1 : Int32) := ⟨_, rfl⟩
      replace hf := xsLt_use ex8 hf
      refine lv_iinc (v := x8) (lv' := [(3, .int x8), (2, .int o6), (0, .ref (xsA X 8))]) hx hb dX9_part_20 hl (k := 2) rfl (by rw [ex8]; rfl) (by decide) rfl (fun ls hl => ?_)
      refine lv_goto (tgt := 6) hx hb dX9_part_23 (by decide) ?_
      exact ih4 _ (Option.some.inj hf).symm hk4 H locs ls hP hD hS (lv_sub hl [2, 1, 0] rfl)
  exact L4 (x1, (0 : Int32)) r4 hk40 hf H locs ls hP hD hS (lv_sub hl [2, 1, 0] rfl)
set_option maxRecDepth 100000 in
set_option maxHeartbeats 8000000 in
theorem mX9_parts (l : Launch) {X : xsX} {kIsKept kIsStale hiLatest hiSize scLength scFault scAt scNumber piSegmentsNow enKind enFromX enFromY enToX enToY tiMeetingPairs tiAlongPairs tiSize evSize evCrossings evSegmentsNow grEdges grQueued huSize huBestX huBestY : Int32} {scBytes scTold tiTouching tiLyingAlong evBundle evCrossingOf evEventOf evLeftEvent evRightEvent grDegree grFar grQueue huX huY : Nat → Int32} {enX enY enLower : Int64} {evX evY evLower : Nat → Int64} {S : Nat → xsV} {Rw : va_W} {out : Int32} (hf : fX9_parts tiTouching tiSize = some out) : Met l yX9_parts (xsWs yX9_parts cX9_parts 4 (some .int)) { frames := 3, cells := 0, slots := 0, locals := 67 } (xsP X (wK X kIsKept kIsStale hiLatest hiSize scBytes scTold scLength scFault scAt scNumber piSegmentsNow enKind enX enY enLower enFromX enFromY enToX enToY tiTouching tiLyingAlong tiMeetingPairs tiAlongPairs tiSize evX evY evLower evBundle evCrossingOf evEventOf evLeftEvent evRightEvent evSize evCrossings evSegmentsNow grDegree grEdges grFar grQueue grQueued huX huY huSize huBestX huBestY S Rw) [.ref (xsA X 8)]) (xsQi X out (wK X kIsKept kIsStale hiLatest hiSize scBytes scTold scLength scFault scAt scNumber piSegmentsNow enKind enX enY enLower enFromX enFromY enToX enToY tiTouching tiLyingAlong tiMeetingPairs tiAlongPairs tiSize evX evY evLower evBundle evCrossingOf evEventOf evLeftEvent evRightEvent evSize evCrossings evSegmentsNow grDegree grEdges grFar grQueue grQueued huX huY huSize huBestX huBestY S Rw)) 0 0 (xsF X) := by
  refine xs_meth RX9 (by decide) rfl (Nat.le_of_ble_eq_true rfl) ?_
  intro p e s m below meth c ls H locs C hP hD hS hr hlk hl
  have hx := C.1
  have hb := C.2.1
  have hl : lv_has ls 4 [(0, .ref (xsA X 8))] := hl
  obtain ⟨Qq, hQq⟩ : ∃ Qq, Qq = xsQi X out (wK X kIsKept kIsStale hiLatest hiSize scBytes scTold scLength scFault scAt scNumber piSegmentsNow enKind enX enY enLower enFromX enFromY enToX enToY tiTouching tiLyingAlong tiMeetingPairs tiAlongPairs tiSize evX evY evLower evBundle evCrossingOf evEventOf evLeftEvent evRightEvent evSize evCrossings evSegmentsNow grDegree grEdges grFar grQueue grQueued huX huY huSize huBestX huBestY S Rw) := ⟨_, rfl⟩
  rw [← hQq]
  unfold fX9_parts at hf
  refine lv_iconst (v := (0 : Int32)) hx hb dX9_parts_0 (by decide) ?_
  refine lv_istore_n (lv' := [(1, .int (0 : Int32)), (0, .ref (xsA X 8))]) hx hb dX9_parts_1 rfl hl (by decide) rfl (fun ls hl => ?_)
  refine lv_iconst (v := (0 : Int32)) hx hb dX9_parts_2 (by decide) ?_
  refine lv_istore_n (lv' := [(2, .int (0 : Int32)), (1, .int (0 : Int32)), (0, .ref (xsA X 8))]) hx hb dX9_parts_3 rfl hl (by decide) rfl (fun ls hl => ?_)
  refine lv_iconst (v := (0 : Int32)) hx hb dX9_parts_4 (by decide) ?_
  refine lv_istore_n (lv' := [(3, .int (0 : Int32)), (2, .int (0 : Int32)), (1, .int (0 : Int32)), (0, .ref (xsA X 8))]) hx hb dX9_parts_5 rfl hl (by decide) rfl (fun ls hl => ?_)
  have K4 : ∀ (y5 : Int32) (hf : fX9_parts_J39 y5 = some out) (H : Heap) (locs : List Loc) (ls : Array Slot), va_P (xsD X) vwCl (wK X kIsKept kIsStale hiLatest hiSize scBytes scTold scLength scFault scAt scNumber piSegmentsNow enKind enX enY enLower enFromX enFromY enToX enToY tiTouching tiLyingAlong tiMeetingPairs tiAlongPairs tiSize evX evY evLower evBundle evCrossingOf evEventOf evLeftEvent evRightEvent evSize evCrossings evSegmentsNow grDegree grEdges grFar grQueue grQueued huX huY huSize huBestX huBestY S Rw) H → va_D (xsF X) (wK X kIsKept kIsStale hiLatest hiSize scBytes scTold scLength scFault scAt scNumber piSegmentsNow enKind enX enY enLower enFromX enFromY enToX enToY tiTouching tiLyingAlong tiMeetingPairs tiAlongPairs tiSize evX evY evLower evBundle evCrossingOf evEventOf evLeftEvent evRightEvent evSize evCrossings evSegmentsNow grDegree grEdges grFar grQueue grQueued huX huY huSize huBestX huBestY S Rw) → va_S (xsF X) s.heap H locs → lv_has ls 4 [(1, .int y5)] → W p l e { frames := 3, cells := 0, slots := 0, locals := 67 } s m ([.ref (xsA X 8)] : List Value).toArray below meth c H locs 0 0 (MQ below Qq ([.ref (xsA X 8)] : List Value).toArray s 0 0 (xsF X)) (F0 m 39 ls []) := by
    intro y5 hf H locs ls hP hD hS hl
    unfold fX9_parts_J39 at hf
    refine lv_iload_n hx hb dX9_parts_39 rfl (lv_at hl 0 rfl) ?_
    have ho := Option.some.inj hf
    subst ho
    rw [hQq]
    exact xs_iret C hr hlk hP hD hS dX9_parts_40
  replace hf := xsBd_use hf
  obtain ⟨r4, hk40, hf⟩ := hf
  have L4 : ∀ (sg : Int32 × Int32 × Int32) (rg : Int32), xsWh (fun s4 => fX9_parts_L6 tiTouching tiSize s4.1 s4.2.1 s4.2.2) sg = some rg → (fX9_parts_J39 rg = some out → ∀ (H : Heap) (locs : List Loc) (ls : Array Slot), va_P (xsD X) vwCl (wK X kIsKept kIsStale hiLatest hiSize scBytes scTold scLength scFault scAt scNumber piSegmentsNow enKind enX enY enLower enFromX enFromY enToX enToY tiTouching tiLyingAlong tiMeetingPairs tiAlongPairs tiSize evX evY evLower evBundle evCrossingOf evEventOf evLeftEvent evRightEvent evSize evCrossings evSegmentsNow grDegree grEdges grFar grQueue grQueued huX huY huSize huBestX huBestY S Rw) H → va_D (xsF X) (wK X kIsKept kIsStale hiLatest hiSize scBytes scTold scLength scFault scAt scNumber piSegmentsNow enKind enX enY enLower enFromX enFromY enToX enToY tiTouching tiLyingAlong tiMeetingPairs tiAlongPairs tiSize evX evY evLower evBundle evCrossingOf evEventOf evLeftEvent evRightEvent evSize evCrossings evSegmentsNow grDegree grEdges grFar grQueue grQueued huX huY huSize huBestX huBestY S Rw) → va_S (xsF X) s.heap H locs → lv_has ls 4 [(0, .ref (xsA X 8)), (1, .int sg.1), (2, .int sg.2.1), (3, .int sg.2.2)] → W p l e { frames := 3, cells := 0, slots := 0, locals := 67 } s m ([.ref (xsA X 8)] : List Value).toArray below meth c H locs 0 0 (MQ below Qq ([.ref (xsA X 8)] : List Value).toArray s 0 0 (xsF X)) (F0 m 6 ls [])) := by
    refine xsWh_ind ?_
    intro sg r4 u4 hf ih4 hx4 hk4 H locs ls hP hD hS hl
    obtain ⟨y1, y2, y3⟩ := sg
    replace hf : fX9_parts_L6 tiTouching tiSize y1 y2 y3 = some u4 := hf
    replace hl : lv_has ls 4 [(0, .ref (xsA X 8)), (1, .int y1), (2, .int y2), (3, .int y3)] := hl
    replace hP : va_P (xsD X) vwCl (wK X kIsKept kIsStale hiLatest hiSize scBytes scTold scLength scFault scAt scNumber piSegmentsNow enKind enX enY enLower enFromX enFromY enToX enToY tiTouching tiLyingAlong tiMeetingPairs tiAlongPairs tiSize evX evY evLower evBundle evCrossingOf evEventOf evLeftEvent evRightEvent evSize evCrossings evSegmentsNow grDegree grEdges grFar grQueue grQueued huX huY huSize huBestX huBestY S Rw) H := hP
    replace hD : va_D (xsF X) (wK X kIsKept kIsStale hiLatest hiSize scBytes scTold scLength scFault scAt scNumber piSegmentsNow enKind enX enY enLower enFromX enFromY enToX enToY tiTouching tiLyingAlong tiMeetingPairs tiAlongPairs tiSize evX evY evLower evBundle evCrossingOf evEventOf evLeftEvent evRightEvent evSize evCrossings evSegmentsNow grDegree grEdges grFar grQueue grQueued huX huY huSize huBestX huBestY S Rw) := hD
    unfold fX9_parts_L6 at hf
    refine lv_iload_n hx hb dX9_parts_6 rfl (lv_at hl 3 rfl) ?_
    refine lv_aload_n hx hb dX9_parts_7 rfl (lv_at hl 0 rfl) ?_
    refine xg_X9_25 C hP dX9_parts_8 ?_
    refine lv_icmp_ge (tgt := 39) hx hb dX9_parts_11 (by decide) (fun c19 => ?_) (fun c19 => ?_)
    · replace hf := xsBr_t c19 hf
      have ez := hx4 _ (Option.some.inj hf).symm
      subst ez
      exact K4 y1 hk4 H locs ls hP hD hS (lv_sub hl [1] rfl)
    · replace hf := xsBr_f c19 hf
      refine lv_iload_n hx hb dX9_parts_14 rfl (lv_at hl 2 rfl) ?_
      refine lv_iload_n hx hb dX9_parts_15 rfl (lv_at hl 3 rfl) ?_
      replace hf := xsBd_use hf
      obtain ⟨o6, h7, hf⟩ := hf
      refine xs_calli hS (xs_runSN (As := [.int y2, .int y3]) C (mX10_has l  h7) C.2.2.2.2.2.2.2.1.1 w_605 w_105 w_606 hd_X10_has ⟨rfl, rfl, Nat.le_of_ble_eq_true rfl, Nat.le_of_ble_eq_true rfl, Nat.zero_le _, Nat.zero_le _⟩ hP hD hS hl.1 rfl (Nat.le_of_ble_eq_true rfl) dX9_parts_16) (fun H locs hP hD hS => ?_)
      have K13 : ∀ (y8 : Int32) (y9 : Int32) (hf : fX9_parts_J33 y3 y8 y9 = some u4) (H : Heap) (locs : List Loc) (ls : Array Slot), va_P (xsD X) vwCl (wK X kIsKept kIsStale hiLatest hiSize scBytes scTold scLength scFault scAt scNumber piSegmentsNow enKind enX enY enLower enFromX enFromY enToX enToY tiTouching tiLyingAlong tiMeetingPairs tiAlongPairs tiSize evX evY evLower evBundle evCrossingOf evEventOf evLeftEvent evRightEvent evSize evCrossings evSegmentsNow grDegree grEdges grFar grQueue grQueued huX huY huSize huBestX huBestY S Rw) H → va_D (xsF X) (wK X kIsKept kIsStale hiLatest hiSize scBytes scTold scLength scFault scAt scNumber piSegmentsNow enKind enX enY enLower enFromX enFromY enToX enToY tiTouching tiLyingAlong tiMeetingPairs tiAlongPairs tiSize evX evY evLower evBundle evCrossingOf evEventOf evLeftEvent evRightEvent evSize evCrossings evSegmentsNow grDegree grEdges grFar grQueue grQueued huX huY huSize huBestX huBestY S Rw) → va_S (xsF X) s.heap H locs → lv_has ls 4 [(0, .ref (xsA X 8)), (1, .int y8), (2, .int y9), (3, .int y3)] → W p l e { frames := 3, cells := 0, slots := 0, locals := 67 } s m ([.ref (xsA X 8)] : List Value).toArray below meth c H locs 0 0 (MQ below Qq ([.ref (xsA X 8)] : List Value).toArray s 0 0 (xsF X)) (F0 m 33 ls []) := by
        intro y8 y9 hf H locs ls hP hD hS hl
        unfold fX9_parts_J33 at hf
        obtain ⟨x10, ex10⟩ : ∃ y : Int32, y = y3 + (1 : Int32) := ⟨_, rfl⟩
        replace hf := xsLt_use ex10 hf
        refine lv_iinc (v := x10) (lv' := [(3, .int x10), (0, .ref (xsA X 8)), (1, .int y8), (2, .int y9)]) hx hb dX9_parts_33 hl (k := 3) rfl (by rw [ex10]; rfl) (by decide) rfl (fun ls hl => ?_)
        refine lv_goto (tgt := 6) hx hb dX9_parts_36 (by decide) ?_
        exact ih4 _ (Option.some.inj hf).symm hk4 H locs ls hP hD hS (lv_sub hl [1, 2, 3, 0] rfl)
      replace hf := xsBd_use hf
      obtain ⟨v11, hf, hk12⟩ := hf
      refine lv_if_ne (tgt := 33) hx hb dX9_parts_19 (by decide) (fun c18 => ?_) (fun c18 => ?_)
      · replace hf := xsBr_f c18 hf
        have ev := Option.some.inj hf
        subst ev
        exact K13 y1 y2 hk12 H locs ls hP hD hS (lv_sub hl [0, 1, 2, 3] rfl)
      · replace hf := xsBr_t c18 hf
        refine lv_iload_n hx hb dX9_parts_22 rfl (lv_at hl 2 rfl) ?_
        refine lv_aload_n hx hb dX9_parts_23 rfl (lv_at hl 0 rfl) ?_
        refine lv_iload_n hx hb dX9_parts_24 rfl (lv_at hl 3 rfl) ?_
        replace hf := xsBd_use hf
        obtain ⟨o14, h15, hf⟩ := hf
        refine xs_calli hS (xs_runV (As := [.int y3]) C (mX9_part l  h15) w_678 w_679 w_680 w_111 w_681 hd_X9_part ⟨rfl, rfl, Nat.le_of_ble_eq_true rfl, Nat.le_of_ble_eq_true rfl, Nat.zero_le _, Nat.zero_le _⟩ hP hD hS lk_X9 rfl hl.1 rfl (Nat.le_of_ble_eq_true rfl) dX9_parts_25) (fun H locs hP hD hS => ?_)
        refine lv_ior hx hb dX9_parts_28 ?_
        refine lv_topi (fun x16 ex16 => ?_)
        replace hf := xsLt_use ex16 hf
        refine lv_istore_n (lv' := [(2, .int x16), (0, .ref (xsA X 8)), (1, .int y1), (3, .int y3)]) hx hb dX9_parts_29 rfl hl (by decide) rfl (fun ls hl => ?_)
        obtain ⟨x17, ex17⟩ : ∃ y : Int32, y = y1 + (1 : Int32) := ⟨_, rfl⟩
        replace hf := xsLt_use ex17 hf
        refine lv_iinc (v := x17) (lv' := [(1, .int x17), (2, .int x16), (0, .ref (xsA X 8)), (3, .int y3)]) hx hb dX9_parts_30 hl (k := 2) rfl (by rw [ex17]; rfl) (by decide) rfl (fun ls hl => ?_)
        have ev := Option.some.inj hf
        subst ev
        exact K13 x17 x16 hk12 H locs ls hP hD hS (lv_sub hl [2, 0, 1, 3] rfl)
  exact L4 ((0 : Int32), (0 : Int32), (0 : Int32)) r4 hk40 hf H locs ls hP hD hS (lv_sub hl [3, 2, 1, 0] rfl)
set_option maxRecDepth 100000 in
set_option maxHeartbeats 8000000 in
theorem mX5_faces (l : Launch) {X : xsX} {kIsKept kIsStale hiLatest hiSize scLength scFault scAt scNumber piSegmentsNow enKind enFromX enFromY enToX enToY tiMeetingPairs tiAlongPairs tiSize evSize evCrossings evSegmentsNow grEdges grQueued huSize huBestX huBestY : Int32} {scBytes scTold tiTouching tiLyingAlong evBundle evCrossingOf evEventOf evLeftEvent evRightEvent grDegree grFar grQueue huX huY : Nat → Int32} {enX enY enLower : Int64} {evX evY evLower : Nat → Int64} {S : Nat → xsV} {Rw : va_W} {out : Int32} (hf : fX5_faces tiTouching tiSize evSize grEdges = some out) : Met l yX5_faces (xsWs yX5_faces cX5_faces 1 (some .int)) { frames := 4, cells := 0, slots := 0, locals := 90 } (xsP X (wK X kIsKept kIsStale hiLatest hiSize scBytes scTold scLength scFault scAt scNumber piSegmentsNow enKind enX enY enLower enFromX enFromY enToX enToY tiTouching tiLyingAlong tiMeetingPairs tiAlongPairs tiSize evX evY evLower evBundle evCrossingOf evEventOf evLeftEvent evRightEvent evSize evCrossings evSegmentsNow grDegree grEdges grFar grQueue grQueued huX huY huSize huBestX huBestY S Rw) [.ref (xsA X 6)]) (xsQi X out (wK X kIsKept kIsStale hiLatest hiSize scBytes scTold scLength scFault scAt scNumber piSegmentsNow enKind enX enY enLower enFromX enFromY enToX enToY tiTouching tiLyingAlong tiMeetingPairs tiAlongPairs tiSize evX evY evLower evBundle evCrossingOf evEventOf evLeftEvent evRightEvent evSize evCrossings evSegmentsNow grDegree grEdges grFar grQueue grQueued huX huY huSize huBestX huBestY S Rw)) 0 0 (xsF X) := by
  refine xs_meth RX5 (by decide) rfl (Nat.le_of_ble_eq_true rfl) ?_
  intro p e s m below meth c ls H locs C hP hD hS hr hlk hl
  have hx := C.1
  have hb := C.2.1
  have hl : lv_has ls 1 [(0, .ref (xsA X 6))] := hl
  obtain ⟨Qq, hQq⟩ : ∃ Qq, Qq = xsQi X out (wK X kIsKept kIsStale hiLatest hiSize scBytes scTold scLength scFault scAt scNumber piSegmentsNow enKind enX enY enLower enFromX enFromY enToX enToY tiTouching tiLyingAlong tiMeetingPairs tiAlongPairs tiSize evX evY evLower evBundle evCrossingOf evEventOf evLeftEvent evRightEvent evSize evCrossings evSegmentsNow grDegree grEdges grFar grQueue grQueued huX huY huSize huBestX huBestY S Rw) := ⟨_, rfl⟩
  rw [← hQq]
  unfold fX5_faces at hf
  refine lv_aload_n hx hb dX5_faces_0 rfl (lv_at hl 0 rfl) ?_
  refine xg_X5_35 C hP dX5_faces_1 ?_
  refine xg_X5_100 C hP dX5_faces_4 ?_
  refine lv_aload_n hx hb dX5_faces_7 rfl (lv_at hl 0 rfl) ?_
  refine xg_X5_21 C hP dX5_faces_8 ?_
  replace hf := xsBd_use hf
  obtain ⟨o1, h2, hf⟩ := hf
  refine xs_calli hS (xs_runV (As := []) C (mX9_parts l  h2) w_690 w_675 w_676 w_111 w_677 hd_X9_parts ⟨rfl, rfl, Nat.le_of_ble_eq_true rfl, Nat.le_of_ble_eq_true rfl, Nat.zero_le _, Nat.zero_le _⟩ hP hD hS lk_X9 rfl hl.1 rfl (Nat.le_of_ble_eq_true rfl) dX5_faces_11) (fun H locs hP hD hS => ?_)
  refine lv_iadd hx hb dX5_faces_14 ?_
  refine lv_iconst (v := (1 : Int32)) hx hb dX5_faces_15 (by decide) ?_
  refine lv_iadd hx hb dX5_faces_16 ?_
  refine lv_aload_n hx hb dX5_faces_17 rfl (lv_at hl 0 rfl) ?_
  refine xg_X5_28 C hP dX5_faces_18 ?_
  refine xg_X5_107 C hP dX5_faces_21 ?_
  refine lv_isub hx hb dX5_faces_24 ?_
  have ho := Option.some.inj hf
  subst ho
  rw [hQq]
  exact xs_iret C hr hlk hP hD hS dX5_faces_25
set_option maxRecDepth 100000 in
set_option maxHeartbeats 8000000 in
theorem mX5_spread (l : Launch) {X : xsX} {kIsKept kIsStale hiLatest hiSize scLength scFault scAt scNumber piSegmentsNow enKind enFromX enFromY enToX enToY tiMeetingPairs tiAlongPairs tiSize evSize evCrossings evSegmentsNow grEdges grQueued huSize huBestX huBestY : Int32} {scBytes scTold tiTouching tiLyingAlong evBundle evCrossingOf evEventOf evLeftEvent evRightEvent grDegree grFar grQueue huX huY : Nat → Int32} {enX enY enLower : Int64} {evX evY evLower : Nat → Int64} {S : Nat → xsV} {Rw : va_W} {a0 : Int32} {out : Int32} (hf : fX5_spread tiLyingAlong tiSize evBundle evLeftEvent evRightEvent evSegmentsNow a0 = some out) : Met l yX5_spread (xsWs yX5_spread cX5_spread 2 (some .int)) { frames := 3, cells := 0, slots := 0, locals := 66 } (xsP X (wK X kIsKept kIsStale hiLatest hiSize scBytes scTold scLength scFault scAt scNumber piSegmentsNow enKind enX enY enLower enFromX enFromY enToX enToY tiTouching tiLyingAlong tiMeetingPairs tiAlongPairs tiSize evX evY evLower evBundle evCrossingOf evEventOf evLeftEvent evRightEvent evSize evCrossings evSegmentsNow grDegree grEdges grFar grQueue grQueued huX huY huSize huBestX huBestY S Rw) [.ref (xsA X 6), .int a0]) (xsQi X out (wK X kIsKept kIsStale hiLatest hiSize scBytes scTold scLength scFault scAt scNumber piSegmentsNow enKind enX enY enLower enFromX enFromY enToX enToY tiTouching tiLyingAlong tiMeetingPairs tiAlongPairs tiSize evX evY evLower evBundle evCrossingOf evEventOf evLeftEvent evRightEvent evSize evCrossings evSegmentsNow grDegree grEdges grFar grQueue grQueued huX huY huSize huBestX huBestY S Rw)) 0 0 (xsF X) := by
  refine xs_meth RX5 (by decide) rfl (Nat.le_of_ble_eq_true rfl) ?_
  intro p e s m below meth c ls H locs C hP hD hS hr hlk hl
  have hx := C.1
  have hb := C.2.1
  have hl : lv_has ls 2 [(0, .ref (xsA X 6)), (1, .int a0)] := hl
  obtain ⟨Qq, hQq⟩ : ∃ Qq, Qq = xsQi X out (wK X kIsKept kIsStale hiLatest hiSize scBytes scTold scLength scFault scAt scNumber piSegmentsNow enKind enX enY enLower enFromX enFromY enToX enToY tiTouching tiLyingAlong tiMeetingPairs tiAlongPairs tiSize evX evY evLower evBundle evCrossingOf evEventOf evLeftEvent evRightEvent evSize evCrossings evSegmentsNow grDegree grEdges grFar grQueue grQueued huX huY huSize huBestX huBestY S Rw) := ⟨_, rfl⟩
  rw [← hQq]
  unfold fX5_spread at hf
  refine lv_aload_n hx hb dX5_spread_0 rfl (lv_at hl 0 rfl) ?_
  refine xg_X5_21 C hP dX5_spread_1 ?_
  refine lv_aload_n hx hb dX5_spread_4 rfl (lv_at hl 0 rfl) ?_
  refine xg_X5_28 C hP dX5_spread_5 ?_
  refine lv_iload_n hx hb dX5_spread_8 rfl (lv_at hl 1 rfl) ?_
  replace hf := xsBd_use hf
  obtain ⟨o1, h2, hf⟩ := hf
  refine xs_calli hS (xs_runV (As := [.int a0]) C (mX1_insidesIn l  h2) w_734 w_735 w_736 w_112 w_737 hd_X1_insidesIn ⟨rfl, rfl, Nat.le_of_ble_eq_true rfl, Nat.le_of_ble_eq_true rfl, Nat.zero_le _, Nat.zero_le _⟩ hP hD hS lk_X1 rfl hl.1 rfl (Nat.le_of_ble_eq_true rfl) dX5_spread_9) (fun H locs hP hD hS => ?_)
  replace hf := xsBd_use hf
  obtain ⟨o3, h4, hf⟩ := hf
  refine xs_calli hS (xs_runV (As := [.int o1]) C (mX9_pairsMeetingIn l  h4) w_721 w_601 w_602 w_111 w_603 hd_X9_pairsMeetingIn ⟨rfl, rfl, Nat.le_of_ble_eq_true rfl, Nat.le_of_ble_eq_true rfl, Nat.zero_le _, Nat.zero_le _⟩ hP hD hS lk_X9 rfl hl.1 rfl (Nat.le_of_ble_eq_true rfl) dX5_spread_12) (fun H locs hP hD hS => ?_)
  have ho := Option.some.inj hf
  subst ho
  rw [hQq]
  exact xs_iret C hr hlk hP hD hS dX5_spread_15
set_option maxRecDepth 100000 in
set_option maxHeartbeats 8000000 in
theorem mX5_spreads (l : Launch) {X : xsX} {kIsKept kIsStale hiLatest hiSize scLength scFault scAt scNumber piSegmentsNow enKind enFromX enFromY enToX enToY tiMeetingPairs tiAlongPairs tiSize evSize evCrossings evSegmentsNow grEdges grQueued huSize huBestX huBestY : Int32} {scBytes scTold tiTouching tiLyingAlong evBundle evCrossingOf evEventOf evLeftEvent evRightEvent grDegree grFar grQueue huX huY : Nat → Int32} {enX enY enLower : Int64} {evX evY evLower : Nat → Int64} {S : Nat → xsV} {Rw : va_W} {out : Int32} (hf : fX5_spreads tiLyingAlong tiSize evBundle evEventOf evLeftEvent evRightEvent evCrossings evSegmentsNow = some out) : Met l yX5_spreads (xsWs yX5_spreads cX5_spreads 3 (some .int)) { frames := 4, cells := 0, slots := 0, locals := 87 } (xsP X (wK X kIsKept kIsStale hiLatest hiSize scBytes scTold scLength scFault scAt scNumber piSegmentsNow enKind enX enY enLower enFromX enFromY enToX enToY tiTouching tiLyingAlong tiMeetingPairs tiAlongPairs tiSize evX evY evLower evBundle evCrossingOf evEventOf evLeftEvent evRightEvent evSize evCrossings evSegmentsNow grDegree grEdges grFar grQueue grQueued huX huY huSize huBestX huBestY S Rw) [.ref (xsA X 6)]) (xsQi X out (wK X kIsKept kIsStale hiLatest hiSize scBytes scTold scLength scFault scAt scNumber piSegmentsNow enKind enX enY enLower enFromX enFromY enToX enToY tiTouching tiLyingAlong tiMeetingPairs tiAlongPairs tiSize evX evY evLower evBundle evCrossingOf evEventOf evLeftEvent evRightEvent evSize evCrossings evSegmentsNow grDegree grEdges grFar grQueue grQueued huX huY huSize huBestX huBestY S Rw)) 0 0 (xsF X) := by
  refine xs_meth RX5 (by decide) rfl (Nat.le_of_ble_eq_true rfl) ?_
  intro p e s m below meth c ls H locs C hP hD hS hr hlk hl
  have hx := C.1
  have hb := C.2.1
  have hl : lv_has ls 3 [(0, .ref (xsA X 6))] := hl
  obtain ⟨Qq, hQq⟩ : ∃ Qq, Qq = xsQi X out (wK X kIsKept kIsStale hiLatest hiSize scBytes scTold scLength scFault scAt scNumber piSegmentsNow enKind enX enY enLower enFromX enFromY enToX enToY tiTouching tiLyingAlong tiMeetingPairs tiAlongPairs tiSize evX evY evLower evBundle evCrossingOf evEventOf evLeftEvent evRightEvent evSize evCrossings evSegmentsNow grDegree grEdges grFar grQueue grQueued huX huY huSize huBestX huBestY S Rw) := ⟨_, rfl⟩
  rw [← hQq]
  unfold fX5_spreads at hf
  refine lv_iconst (v := (0 : Int32)) hx hb dX5_spreads_0 (by decide) ?_
  refine lv_istore_n (lv' := [(1, .int (0 : Int32)), (0, .ref (xsA X 6))]) hx hb dX5_spreads_1 rfl hl (by decide) rfl (fun ls hl => ?_)
  refine lv_iconst (v := (0 : Int32)) hx hb dX5_spreads_2 (by decide) ?_
  refine lv_istore_n (lv' := [(2, .int (0 : Int32)), (1, .int (0 : Int32)), (0, .ref (xsA X 6))]) hx hb dX5_spreads_3 rfl hl (by decide) rfl (fun ls hl => ?_)
  have K3 : ∀ (y4 : Int32) (hf : fX5_spreads_J37 y4 = some out) (H : Heap) (locs : List Loc) (ls : Array Slot), va_P (xsD X) vwCl (wK X kIsKept kIsStale hiLatest hiSize scBytes scTold scLength scFault scAt scNumber piSegmentsNow enKind enX enY enLower enFromX enFromY enToX enToY tiTouching tiLyingAlong tiMeetingPairs tiAlongPairs tiSize evX evY evLower evBundle evCrossingOf evEventOf evLeftEvent evRightEvent evSize evCrossings evSegmentsNow grDegree grEdges grFar grQueue grQueued huX huY huSize huBestX huBestY S Rw) H → va_D (xsF X) (wK X kIsKept kIsStale hiLatest hiSize scBytes scTold scLength scFault scAt scNumber piSegmentsNow enKind enX enY enLower enFromX enFromY enToX enToY tiTouching tiLyingAlong tiMeetingPairs tiAlongPairs tiSize evX evY evLower evBundle evCrossingOf evEventOf evLeftEvent evRightEvent evSize evCrossings evSegmentsNow grDegree grEdges grFar grQueue grQueued huX huY huSize huBestX huBestY S Rw) → va_S (xsF X) s.heap H locs → lv_has ls 3 [(1, .int y4)] → W p l e { frames := 4, cells := 0, slots := 0, locals := 87 } s m ([.ref (xsA X 6)] : List Value).toArray below meth c H locs 0 0 (MQ below Qq ([.ref (xsA X 6)] : List Value).toArray s 0 0 (xsF X)) (F0 m 37 ls []) := by
    intro y4 hf H locs ls hP hD hS hl
    unfold fX5_spreads_J37 at hf
    refine lv_iload_n hx hb dX5_spreads_37 rfl (lv_at hl 0 rfl) ?_
    have ho := Option.some.inj hf
    subst ho
    rw [hQq]
    exact xs_iret C hr hlk hP hD hS dX5_spreads_38
  replace hf := xsBd_use hf
  obtain ⟨r3, hk30, hf⟩ := hf
  have L3 : ∀ (sg : Int32 × Int32) (rg : Int32), xsWh (fun s3 => fX5_spreads_L4 tiLyingAlong tiSize evBundle evEventOf evLeftEvent evRightEvent evCrossings evSegmentsNow s3.1 s3.2) sg = some rg → (fX5_spreads_J37 rg = some out → ∀ (H : Heap) (locs : List Loc) (ls : Array Slot), va_P (xsD X) vwCl (wK X kIsKept kIsStale hiLatest hiSize scBytes scTold scLength scFault scAt scNumber piSegmentsNow enKind enX enY enLower enFromX enFromY enToX enToY tiTouching tiLyingAlong tiMeetingPairs tiAlongPairs tiSize evX evY evLower evBundle evCrossingOf evEventOf evLeftEvent evRightEvent evSize evCrossings evSegmentsNow grDegree grEdges grFar grQueue grQueued huX huY huSize huBestX huBestY S Rw) H → va_D (xsF X) (wK X kIsKept kIsStale hiLatest hiSize scBytes scTold scLength scFault scAt scNumber piSegmentsNow enKind enX enY enLower enFromX enFromY enToX enToY tiTouching tiLyingAlong tiMeetingPairs tiAlongPairs tiSize evX evY evLower evBundle evCrossingOf evEventOf evLeftEvent evRightEvent evSize evCrossings evSegmentsNow grDegree grEdges grFar grQueue grQueued huX huY huSize huBestX huBestY S Rw) → va_S (xsF X) s.heap H locs → lv_has ls 3 [(0, .ref (xsA X 6)), (1, .int sg.1), (2, .int sg.2)] → W p l e { frames := 4, cells := 0, slots := 0, locals := 87 } s m ([.ref (xsA X 6)] : List Value).toArray below meth c H locs 0 0 (MQ below Qq ([.ref (xsA X 6)] : List Value).toArray s 0 0 (xsF X)) (F0 m 4 ls [])) := by
    refine xsWh_ind ?_
    intro sg r3 u3 hf ih3 hx3 hk3 H locs ls hP hD hS hl
    obtain ⟨y1, y2⟩ := sg
    replace hf : fX5_spreads_L4 tiLyingAlong tiSize evBundle evEventOf evLeftEvent evRightEvent evCrossings evSegmentsNow y1 y2 = some u3 := hf
    replace hl : lv_has ls 3 [(0, .ref (xsA X 6)), (1, .int y1), (2, .int y2)] := hl
    replace hP : va_P (xsD X) vwCl (wK X kIsKept kIsStale hiLatest hiSize scBytes scTold scLength scFault scAt scNumber piSegmentsNow enKind enX enY enLower enFromX enFromY enToX enToY tiTouching tiLyingAlong tiMeetingPairs tiAlongPairs tiSize evX evY evLower evBundle evCrossingOf evEventOf evLeftEvent evRightEvent evSize evCrossings evSegmentsNow grDegree grEdges grFar grQueue grQueued huX huY huSize huBestX huBestY S Rw) H := hP
    replace hD : va_D (xsF X) (wK X kIsKept kIsStale hiLatest hiSize scBytes scTold scLength scFault scAt scNumber piSegmentsNow enKind enX enY enLower enFromX enFromY enToX enToY tiTouching tiLyingAlong tiMeetingPairs tiAlongPairs tiSize evX evY evLower evBundle evCrossingOf evEventOf evLeftEvent evRightEvent evSize evCrossings evSegmentsNow grDegree grEdges grFar grQueue grQueued huX huY huSize huBestX huBestY S Rw) := hD
    unfold fX5_spreads_L4 at hf
    refine lv_iload_n hx hb dX5_spreads_4 rfl (lv_at hl 2 rfl) ?_
    refine lv_aload_n hx hb dX5_spreads_5 rfl (lv_at hl 0 rfl) ?_
    refine xg_X5_28 C hP dX5_spreads_6 ?_
    refine xg_X5_115 C hP dX5_spreads_9 ?_
    refine lv_icmp_ge (tgt := 37) hx hb dX5_spreads_12 (by decide) (fun c10 => ?_) (fun c10 => ?_)
    · replace hf := xsBr_t c10 hf
      have ez := hx3 _ (Option.some.inj hf).symm
      subst ez
      exact K3 y1 hk3 H locs ls hP hD hS (lv_sub hl [1] rfl)
    · replace hf := xsBr_f c10 hf
      refine lv_iload_n hx hb dX5_spreads_15 rfl (lv_at hl 1 rfl) ?_
      refine lv_aload_n hx hb dX5_spreads_16 rfl (lv_at hl 0 rfl) ?_
      refine lv_aload_n hx hb dX5_spreads_17 rfl (lv_at hl 0 rfl) ?_
      refine xg_X5_28 C hP dX5_spreads_18 ?_
      refine xg_X5_118 C hP dX5_spreads_21 ?_
      refine lv_iload_n hx hb dX5_spreads_24 rfl (lv_at hl 2 rfl) ?_
      replace hf := xsCk_use hf
      obtain ⟨h5, hf⟩ := hf
      refine xl_evEventOf C hP h5 dX5_spreads_25 ?_
      replace hf := xsBd_use hf
      obtain ⟨o6, h7, hf⟩ := hf
      refine xs_calli hS (xs_runV (As := [.int (evEventOf y2.toNatClampNeg)]) C (mX5_spread l  h7) w_730 w_731 w_732 w_109 w_733 hd_X5_spread ⟨rfl, rfl, Nat.le_of_ble_eq_true rfl, Nat.le_of_ble_eq_true rfl, Nat.zero_le _, Nat.zero_le _⟩ hP hD hS lk_X5 rfl hl.1 rfl (Nat.le_of_ble_eq_true rfl) dX5_spreads_26) (fun H locs hP hD hS => ?_)
      refine lv_iadd hx hb dX5_spreads_29 ?_
      refine lv_topi (fun x8 ex8 => ?_)
      replace hf := xsLt_use ex8 hf
      refine lv_istore_n (lv' := [(1, .int x8), (0, .ref (xsA X 6)), (2, .int y2)]) hx hb dX5_spreads_30 rfl hl (by decide) rfl (fun ls hl => ?_)
      obtain ⟨x9, ex9⟩ : ∃ y : Int32, y = y2 + (1 : Int32) := ⟨_, rfl⟩
      replace hf := xsLt_use ex9 hf
      refine lv_iinc (v := x9) (lv' := [(2, .int x9), (1, .int x8), (0, .ref (xsA X 6))]) hx hb dX5_spreads_31 hl (k := 2) rfl (by rw [ex9]; rfl) (by decide) rfl (fun ls hl => ?_)
      refine lv_goto (tgt := 4) hx hb dX5_spreads_34 (by decide) ?_
      exact ih3 _ (Option.some.inj hf).symm hk3 H locs ls hP hD hS (lv_sub hl [2, 1, 0] rfl)
  exact L3 ((0 : Int32), (0 : Int32)) r3 hk30 hf H locs ls hP hD hS (lv_sub hl [2, 1, 0] rfl)
set_option maxRecDepth 100000 in
set_option maxHeartbeats 8000000 in
theorem mX5_crossingsFewerWithout (l : Launch) {X : xsX} {kIsKept kIsStale hiLatest hiSize scLength scFault scAt scNumber piSegmentsNow enKind enFromX enFromY enToX enToY tiMeetingPairs tiAlongPairs tiSize evSize evCrossings evSegmentsNow grEdges grQueued huSize huBestX huBestY : Int32} {scBytes scTold tiTouching tiLyingAlong evBundle evCrossingOf evEventOf evLeftEvent evRightEvent grDegree grFar grQueue huX huY : Nat → Int32} {enX enY enLower : Int64} {evX evY evLower : Nat → Int64} {S : Nat → xsV} {Rw : va_W} {a0 : Int32} {out : Int32} (hf : fX5_crossingsFewerWithout tiLyingAlong tiSize evBundle evEventOf evCrossings a0 = some out) : Met l yX5_crossingsFewerWithout (xsWs yX5_crossingsFewerWithout cX5_crossingsFewerWithout 5 (some .int)) { frames := 2, cells := 0, slots := 0, locals := 44 } (xsP X (wK X kIsKept kIsStale hiLatest hiSize scBytes scTold scLength scFault scAt scNumber piSegmentsNow enKind enX enY enLower enFromX enFromY enToX enToY tiTouching tiLyingAlong tiMeetingPairs tiAlongPairs tiSize evX evY evLower evBundle evCrossingOf evEventOf evLeftEvent evRightEvent evSize evCrossings evSegmentsNow grDegree grEdges grFar grQueue grQueued huX huY huSize huBestX huBestY S Rw) [.ref (xsA X 6), .int a0]) (xsQi X out (wK X kIsKept kIsStale hiLatest hiSize scBytes scTold scLength scFault scAt scNumber piSegmentsNow enKind enX enY enLower enFromX enFromY enToX enToY tiTouching tiLyingAlong tiMeetingPairs tiAlongPairs tiSize evX evY evLower evBundle evCrossingOf evEventOf evLeftEvent evRightEvent evSize evCrossings evSegmentsNow grDegree grEdges grFar grQueue grQueued huX huY huSize huBestX huBestY S Rw)) 0 0 (xsF X) := by
  refine xs_meth RX5 (by decide) rfl (Nat.le_of_ble_eq_true rfl) ?_
  intro p e s m below meth c ls H locs C hP hD hS hr hlk hl
  have hx := C.1
  have hb := C.2.1
  have hl : lv_has ls 5 [(0, .ref (xsA X 6)), (1, .int a0)] := hl
  obtain ⟨Qq, hQq⟩ : ∃ Qq, Qq = xsQi X out (wK X kIsKept kIsStale hiLatest hiSize scBytes scTold scLength scFault scAt scNumber piSegmentsNow enKind enX enY enLower enFromX enFromY enToX enToY tiTouching tiLyingAlong tiMeetingPairs tiAlongPairs tiSize evX evY evLower evBundle evCrossingOf evEventOf evLeftEvent evRightEvent evSize evCrossings evSegmentsNow grDegree grEdges grFar grQueue grQueued huX huY huSize huBestX huBestY S Rw) := ⟨_, rfl⟩
  rw [← hQq]
  unfold fX5_crossingsFewerWithout at hf
  refine lv_iconst (v := (0 : Int32)) hx hb dX5_crossingsFewerWithout_0 (by decide) ?_
  refine lv_istore_n (lv' := [(2, .int (0 : Int32)), (0, .ref (xsA X 6)), (1, .int a0)]) hx hb dX5_crossingsFewerWithout_1 rfl hl (by decide) rfl (fun ls hl => ?_)
  refine lv_iconst (v := (0 : Int32)) hx hb dX5_crossingsFewerWithout_2 (by decide) ?_
  refine lv_istore_n (lv' := [(3, .int (0 : Int32)), (2, .int (0 : Int32)), (0, .ref (xsA X 6)), (1, .int a0)]) hx hb dX5_crossingsFewerWithout_3 rfl hl (by decide) rfl (fun ls hl => ?_)
  have K3 : ∀ (y4 : Int32) (hf : fX5_crossingsFewerWithout_J70 y4 = some out) (H : Heap) (locs : List Loc) (ls : Array Slot), va_P (xsD X) vwCl (wK X kIsKept kIsStale hiLatest hiSize scBytes scTold scLength scFault scAt scNumber piSegmentsNow enKind enX enY enLower enFromX enFromY enToX enToY tiTouching tiLyingAlong tiMeetingPairs tiAlongPairs tiSize evX evY evLower evBundle evCrossingOf evEventOf evLeftEvent evRightEvent evSize evCrossings evSegmentsNow grDegree grEdges grFar grQueue grQueued huX huY huSize huBestX huBestY S Rw) H → va_D (xsF X) (wK X kIsKept kIsStale hiLatest hiSize scBytes scTold scLength scFault scAt scNumber piSegmentsNow enKind enX enY enLower enFromX enFromY enToX enToY tiTouching tiLyingAlong tiMeetingPairs tiAlongPairs tiSize evX evY evLower evBundle evCrossingOf evEventOf evLeftEvent evRightEvent evSize evCrossings evSegmentsNow grDegree grEdges grFar grQueue grQueued huX huY huSize huBestX huBestY S Rw) → va_S (xsF X) s.heap H locs → lv_has ls 5 [(2, .int y4)] → W p l e { frames := 2, cells := 0, slots := 0, locals := 44 } s m ([.ref (xsA X 6), .int a0] : List Value).toArray below meth c H locs 0 0 (MQ below Qq ([.ref (xsA X 6), .int a0] : List Value).toArray s 0 0 (xsF X)) (F0 m 70 ls []) := by
    intro y4 hf H locs ls hP hD hS hl
    unfold fX5_crossingsFewerWithout_J70 at hf
    refine lv_iload_n hx hb dX5_crossingsFewerWithout_70 rfl (lv_at hl 0 rfl) ?_
    have ho := Option.some.inj hf
    subst ho
    rw [hQq]
    exact xs_iret C hr hlk hP hD hS dX5_crossingsFewerWithout_71
  replace hf := xsBd_use hf
  obtain ⟨r3, hk30, hf⟩ := hf
  have L3 : ∀ (sg : Int32 × Int32) (rg : Int32), xsWh (fun s3 => fX5_crossingsFewerWithout_L4 tiLyingAlong tiSize evBundle evEventOf evCrossings a0 s3.1 s3.2) sg = some rg → (fX5_crossingsFewerWithout_J70 rg = some out → ∀ (H : Heap) (locs : List Loc) (ls : Array Slot), va_P (xsD X) vwCl (wK X kIsKept kIsStale hiLatest hiSize scBytes scTold scLength scFault scAt scNumber piSegmentsNow enKind enX enY enLower enFromX enFromY enToX enToY tiTouching tiLyingAlong tiMeetingPairs tiAlongPairs tiSize evX evY evLower evBundle evCrossingOf evEventOf evLeftEvent evRightEvent evSize evCrossings evSegmentsNow grDegree grEdges grFar grQueue grQueued huX huY huSize huBestX huBestY S Rw) H → va_D (xsF X) (wK X kIsKept kIsStale hiLatest hiSize scBytes scTold scLength scFault scAt scNumber piSegmentsNow enKind enX enY enLower enFromX enFromY enToX enToY tiTouching tiLyingAlong tiMeetingPairs tiAlongPairs tiSize evX evY evLower evBundle evCrossingOf evEventOf evLeftEvent evRightEvent evSize evCrossings evSegmentsNow grDegree grEdges grFar grQueue grQueued huX huY huSize huBestX huBestY S Rw) → va_S (xsF X) s.heap H locs → lv_has ls 5 [(0, .ref (xsA X 6)), (1, .int a0), (2, .int sg.1), (3, .int sg.2)] → W p l e { frames := 2, cells := 0, slots := 0, locals := 44 } s m ([.ref (xsA X 6), .int a0] : List Value).toArray below meth c H locs 0 0 (MQ below Qq ([.ref (xsA X 6), .int a0] : List Value).toArray s 0 0 (xsF X)) (F0 m 4 ls [])) := by
    refine xsWh_ind ?_
    intro sg r3 u3 hf ih3 hx3 hk3 H locs ls hP hD hS hl
    obtain ⟨y1, y2⟩ := sg
    replace hf : fX5_crossingsFewerWithout_L4 tiLyingAlong tiSize evBundle evEventOf evCrossings a0 y1 y2 = some u3 := hf
    replace hl : lv_has ls 5 [(0, .ref (xsA X 6)), (1, .int a0), (2, .int y1), (3, .int y2)] := hl
    replace hP : va_P (xsD X) vwCl (wK X kIsKept kIsStale hiLatest hiSize scBytes scTold scLength scFault scAt scNumber piSegmentsNow enKind enX enY enLower enFromX enFromY enToX enToY tiTouching tiLyingAlong tiMeetingPairs tiAlongPairs tiSize evX evY evLower evBundle evCrossingOf evEventOf evLeftEvent evRightEvent evSize evCrossings evSegmentsNow grDegree grEdges grFar grQueue grQueued huX huY huSize huBestX huBestY S Rw) H := hP
    replace hD : va_D (xsF X) (wK X kIsKept kIsStale hiLatest hiSize scBytes scTold scLength scFault scAt scNumber piSegmentsNow enKind enX enY enLower enFromX enFromY enToX enToY tiTouching tiLyingAlong tiMeetingPairs tiAlongPairs tiSize evX evY evLower evBundle evCrossingOf evEventOf evLeftEvent evRightEvent evSize evCrossings evSegmentsNow grDegree grEdges grFar grQueue grQueued huX huY huSize huBestX huBestY S Rw) := hD
    unfold fX5_crossingsFewerWithout_L4 at hf
    refine lv_iload_n hx hb dX5_crossingsFewerWithout_4 rfl (lv_at hl 3 rfl) ?_
    refine lv_aload_n hx hb dX5_crossingsFewerWithout_5 rfl (lv_at hl 0 rfl) ?_
    refine xg_X5_28 C hP dX5_crossingsFewerWithout_6 ?_
    refine xg_X5_115 C hP dX5_crossingsFewerWithout_9 ?_
    refine lv_icmp_ge (tgt := 70) hx hb dX5_crossingsFewerWithout_12 (by decide) (fun c20 => ?_) (fun c20 => ?_)
    · replace hf := xsBr_t c20 hf
      have ez := hx3 _ (Option.some.inj hf).symm
      subst ez
      exact K3 y1 hk3 H locs ls hP hD hS (lv_sub hl [2] rfl)
    · replace hf := xsBr_f c20 hf
      refine lv_aload_n hx hb dX5_crossingsFewerWithout_15 rfl (lv_at hl 0 rfl) ?_
      refine xg_X5_28 C hP dX5_crossingsFewerWithout_16 ?_
      refine xg_X5_127 C hP dX5_crossingsFewerWithout_19 ?_
      refine lv_aload_n hx hb dX5_crossingsFewerWithout_22 rfl (lv_at hl 0 rfl) ?_
      refine xg_X5_28 C hP dX5_crossingsFewerWithout_23 ?_
      refine xg_X5_118 C hP dX5_crossingsFewerWithout_26 ?_
      refine lv_iload_n hx hb dX5_crossingsFewerWithout_29 rfl (lv_at hl 3 rfl) ?_
      replace hf := xsCk_use hf
      obtain ⟨h5, hf⟩ := hf
      refine xl_evEventOf C hP h5 dX5_crossingsFewerWithout_30 ?_
      replace hf := xsCk_use hf
      obtain ⟨h6, hf⟩ := hf
      refine xl_evBundle C hP h6 dX5_crossingsFewerWithout_31 ?_
      refine lv_topi (fun x7 ex7 => ?_)
      replace hf := xsLt_use ex7 hf
      refine lv_istore (lv' := [(4, .int x7), (0, .ref (xsA X 6)), (1, .int a0), (2, .int y1), (3, .int y2)]) hx hb dX5_crossingsFewerWithout_32 hl (by decide) rfl (fun ls hl => ?_)
      refine lv_iload hx hb dX5_crossingsFewerWithout_34 (lv_at hl 0 rfl) ?_
      refine lv_iload_n hx hb dX5_crossingsFewerWithout_36 rfl (lv_at hl 2 rfl) ?_
      replace hf := xsBd_use hf
      obtain ⟨o8, h9, hf⟩ := hf
      refine xs_calli hS (xs_runSN (As := [.int x7, .int a0]) C (mX10_has l  h9) C.2.2.2.2.2.2.2.1.2.2.2.1 w_605 w_105 w_606 hd_X10_has ⟨rfl, rfl, Nat.le_of_ble_eq_true rfl, Nat.le_of_ble_eq_true rfl, Nat.zero_le _, Nat.zero_le _⟩ hP hD hS hl.1 rfl (Nat.le_of_ble_eq_true rfl) dX5_crossingsFewerWithout_37) (fun H locs hP hD hS => ?_)
      have K14 : ∀ (y10 : Int32) (hf : fX5_crossingsFewerWithout_J64 y2 y10 = some u3) (H : Heap) (locs : List Loc) (ls : Array Slot), va_P (xsD X) vwCl (wK X kIsKept kIsStale hiLatest hiSize scBytes scTold scLength scFault scAt scNumber piSegmentsNow enKind enX enY enLower enFromX enFromY enToX enToY tiTouching tiLyingAlong tiMeetingPairs tiAlongPairs tiSize evX evY evLower evBundle evCrossingOf evEventOf evLeftEvent evRightEvent evSize evCrossings evSegmentsNow grDegree grEdges grFar grQueue grQueued huX huY huSize huBestX huBestY S Rw) H → va_D (xsF X) (wK X kIsKept kIsStale hiLatest hiSize scBytes scTold scLength scFault scAt scNumber piSegmentsNow enKind enX enY enLower enFromX enFromY enToX enToY tiTouching tiLyingAlong tiMeetingPairs tiAlongPairs tiSize evX evY evLower evBundle evCrossingOf evEventOf evLeftEvent evRightEvent evSize evCrossings evSegmentsNow grDegree grEdges grFar grQueue grQueued huX huY huSize huBestX huBestY S Rw) → va_S (xsF X) s.heap H locs → lv_has ls 5 [(0, .ref (xsA X 6)), (1, .int a0), (2, .int y10), (3, .int y2)] → W p l e { frames := 2, cells := 0, slots := 0, locals := 44 } s m ([.ref (xsA X 6), .int a0] : List Value).toArray below meth c H locs 0 0 (MQ below Qq ([.ref (xsA X 6), .int a0] : List Value).toArray s 0 0 (xsF X)) (F0 m 64 ls []) := by
        intro y10 hf H locs ls hP hD hS hl
        unfold fX5_crossingsFewerWithout_J64 at hf
        obtain ⟨x11, ex11⟩ : ∃ y : Int32, y = y2 + (1 : Int32) := ⟨_, rfl⟩
        replace hf := xsLt_use ex11 hf
        refine lv_iinc (v := x11) (lv' := [(3, .int x11), (0, .ref (xsA X 6)), (1, .int a0), (2, .int y10)]) hx hb dX5_crossingsFewerWithout_64 hl (k := 3) rfl (by rw [ex11]; rfl) (by decide) rfl (fun ls hl => ?_)
        refine lv_goto (tgt := 4) hx hb dX5_crossingsFewerWithout_67 (by decide) ?_
        exact ih3 _ (Option.some.inj hf).symm hk3 H locs ls hP hD hS (lv_sub hl [1, 2, 3, 0] rfl)
      replace hf := xsBd_use hf
      obtain ⟨v12, hf, hk13⟩ := hf
      refine lv_if_eq (tgt := 64) hx hb dX5_crossingsFewerWithout_40 (by decide) (fun c19 => ?_) (fun c19 => ?_)
      · replace hf := xsBr_t c19 hf
        have ev := Option.some.inj hf
        subst ev
        exact K14 y1 hk13 H locs ls hP hD hS (lv_sub hl [1, 2, 3, 4] rfl)
      · replace hf := xsBr_f c19 hf
        refine lv_aload_n hx hb dX5_crossingsFewerWithout_43 rfl (lv_at hl 1 rfl) ?_
        refine xg_X5_21 C hP dX5_crossingsFewerWithout_44 ?_
        refine lv_iload hx hb dX5_crossingsFewerWithout_47 (lv_at hl 0 rfl) ?_
        refine lv_iconst (v := (1 : Int32)) hx hb dX5_crossingsFewerWithout_49 (by decide) ?_
        refine lv_iload_n hx hb dX5_crossingsFewerWithout_50 rfl (lv_at hl 2 rfl) ?_
        refine lv_ishl hx hb dX5_crossingsFewerWithout_51 ?_
        refine lv_iconst (v := (-1 : Int32)) hx hb dX5_crossingsFewerWithout_52 (by decide) ?_
        refine lv_ixor hx hb dX5_crossingsFewerWithout_53 ?_
        refine lv_iand hx hb dX5_crossingsFewerWithout_54 ?_
        replace hf := xsBd_use hf
        obtain ⟨o15, h16, hf⟩ := hf
        refine xs_calli hS (xs_runV (As := [.int (x7 &&& (((1 : Int32) <<< (a0 &&& 31)) ^^^ (-1 : Int32)))]) C (mX9_pairsMeetingIn l  h16) w_721 w_601 w_602 w_111 w_603 hd_X9_pairsMeetingIn ⟨rfl, rfl, Nat.le_of_ble_eq_true rfl, Nat.le_of_ble_eq_true rfl, Nat.zero_le _, Nat.zero_le _⟩ hP hD hS lk_X9 rfl hl.1 rfl (Nat.le_of_ble_eq_true rfl) dX5_crossingsFewerWithout_55) (fun H locs hP hD hS => ?_)
        refine lv_if_ne (tgt := 64) hx hb dX5_crossingsFewerWithout_58 (by decide) (fun c18 => ?_) (fun c18 => ?_)
        · replace hf := xsBr_f c18 hf
          have ev := Option.some.inj hf
          subst ev
          exact K14 y1 hk13 H locs ls hP hD hS (lv_sub hl [1, 2, 3, 4] rfl)
        · replace hf := xsBr_t c18 hf
          obtain ⟨x17, ex17⟩ : ∃ y : Int32, y = y1 + (1 : Int32) := ⟨_, rfl⟩
          replace hf := xsLt_use ex17 hf
          refine lv_iinc (v := x17) (lv' := [(2, .int x17), (4, .int x7), (0, .ref (xsA X 6)), (1, .int a0), (3, .int y2)]) hx hb dX5_crossingsFewerWithout_61 hl (k := 3) rfl (by rw [ex17]; rfl) (by decide) rfl (fun ls hl => ?_)
          have ev := Option.some.inj hf
          subst ev
          exact K14 x17 hk13 H locs ls hP hD hS (lv_sub hl [2, 3, 0, 4] rfl)
  exact L3 ((0 : Int32), (0 : Int32)) r3 hk30 hf H locs ls hP hD hS (lv_sub hl [2, 3, 1, 0] rfl)
set_option maxRecDepth 100000 in
set_option maxHeartbeats 8000000 in
theorem mX5_blame (l : Launch) {X : xsX} {kIsKept kIsStale hiLatest hiSize scLength scFault scAt scNumber piSegmentsNow enKind enFromX enFromY enToX enToY tiMeetingPairs tiAlongPairs tiSize evSize evCrossings evSegmentsNow grEdges grQueued huSize huBestX huBestY : Int32} {scBytes scTold tiTouching tiLyingAlong evBundle evCrossingOf evEventOf evLeftEvent evRightEvent grDegree grFar grQueue huX huY : Nat → Int32} {enX enY enLower : Int64} {evX evY evLower : Nat → Int64} {S : Nat → xsV} {Rw : va_W} {out : Int32} (hf : fX5_blame piSegmentsNow tiLyingAlong tiSize evBundle evEventOf evCrossings = some out) : Met l yX5_blame (xsWs yX5_blame cX5_blame 5 (some .int)) { frames := 3, cells := 0, slots := 0, locals := 68 } (xsP X (wK X kIsKept kIsStale hiLatest hiSize scBytes scTold scLength scFault scAt scNumber piSegmentsNow enKind enX enY enLower enFromX enFromY enToX enToY tiTouching tiLyingAlong tiMeetingPairs tiAlongPairs tiSize evX evY evLower evBundle evCrossingOf evEventOf evLeftEvent evRightEvent evSize evCrossings evSegmentsNow grDegree grEdges grFar grQueue grQueued huX huY huSize huBestX huBestY S Rw) [.ref (xsA X 6)]) (xsQi X out (wK X kIsKept kIsStale hiLatest hiSize scBytes scTold scLength scFault scAt scNumber piSegmentsNow enKind enX enY enLower enFromX enFromY enToX enToY tiTouching tiLyingAlong tiMeetingPairs tiAlongPairs tiSize evX evY evLower evBundle evCrossingOf evEventOf evLeftEvent evRightEvent evSize evCrossings evSegmentsNow grDegree grEdges grFar grQueue grQueued huX huY huSize huBestX huBestY S Rw)) 0 0 (xsF X) := by
  refine xs_meth RX5 (by decide) rfl (Nat.le_of_ble_eq_true rfl) ?_
  intro p e s m below meth c ls H locs C hP hD hS hr hlk hl
  have hx := C.1
  have hb := C.2.1
  have hl : lv_has ls 5 [(0, .ref (xsA X 6))] := hl
  obtain ⟨Qq, hQq⟩ : ∃ Qq, Qq = xsQi X out (wK X kIsKept kIsStale hiLatest hiSize scBytes scTold scLength scFault scAt scNumber piSegmentsNow enKind enX enY enLower enFromX enFromY enToX enToY tiTouching tiLyingAlong tiMeetingPairs tiAlongPairs tiSize evX evY evLower evBundle evCrossingOf evEventOf evLeftEvent evRightEvent evSize evCrossings evSegmentsNow grDegree grEdges grFar grQueue grQueued huX huY huSize huBestX huBestY S Rw) := ⟨_, rfl⟩
  rw [← hQq]
  unfold fX5_blame at hf
  refine lv_iconst (v := (-1 : Int32)) hx hb dX5_blame_0 (by decide) ?_
  refine lv_istore_n (lv' := [(1, .int (-1 : Int32)), (0, .ref (xsA X 6))]) hx hb dX5_blame_1 rfl hl (by decide) rfl (fun ls hl => ?_)
  refine lv_iconst (v := (-1 : Int32)) hx hb dX5_blame_2 (by decide) ?_
  refine lv_istore_n (lv' := [(2, .int (-1 : Int32)), (1, .int (-1 : Int32)), (0, .ref (xsA X 6))]) hx hb dX5_blame_3 rfl hl (by decide) rfl (fun ls hl => ?_)
  refine lv_iconst (v := (0 : Int32)) hx hb dX5_blame_4 (by decide) ?_
  refine lv_istore_n (lv' := [(3, .int (0 : Int32)), (2, .int (-1 : Int32)), (1, .int (-1 : Int32)), (0, .ref (xsA X 6))]) hx hb dX5_blame_5 rfl hl (by decide) rfl (fun ls hl => ?_)
  have K4 : ∀ (y5 : Int32) (hf : fX5_blame_J38 y5 = some out) (H : Heap) (locs : List Loc) (ls : Array Slot), va_P (xsD X) vwCl (wK X kIsKept kIsStale hiLatest hiSize scBytes scTold scLength scFault scAt scNumber piSegmentsNow enKind enX enY enLower enFromX enFromY enToX enToY tiTouching tiLyingAlong tiMeetingPairs tiAlongPairs tiSize evX evY evLower evBundle evCrossingOf evEventOf evLeftEvent evRightEvent evSize evCrossings evSegmentsNow grDegree grEdges grFar grQueue grQueued huX huY huSize huBestX huBestY S Rw) H → va_D (xsF X) (wK X kIsKept kIsStale hiLatest hiSize scBytes scTold scLength scFault scAt scNumber piSegmentsNow enKind enX enY enLower enFromX enFromY enToX enToY tiTouching tiLyingAlong tiMeetingPairs tiAlongPairs tiSize evX evY evLower evBundle evCrossingOf evEventOf evLeftEvent evRightEvent evSize evCrossings evSegmentsNow grDegree grEdges grFar grQueue grQueued huX huY huSize huBestX huBestY S Rw) → va_S (xsF X) s.heap H locs → lv_has ls 5 [(1, .int y5)] → W p l e { frames := 3, cells := 0, slots := 0, locals := 68 } s m ([.ref (xsA X 6)] : List Value).toArray below meth c H locs 0 0 (MQ below Qq ([.ref (xsA X 6)] : List Value).toArray s 0 0 (xsF X)) (F0 m 38 ls []) := by
    intro y5 hf H locs ls hP hD hS hl
    unfold fX5_blame_J38 at hf
    refine lv_iload_n hx hb dX5_blame_38 rfl (lv_at hl 0 rfl) ?_
    have ho := Option.some.inj hf
    subst ho
    rw [hQq]
    exact xs_iret C hr hlk hP hD hS dX5_blame_39
  replace hf := xsBd_use hf
  obtain ⟨r4, hk40, hf⟩ := hf
  have L4 : ∀ (sg : Int32 × Int32 × Int32) (rg : Int32), xsWh (fun s4 => fX5_blame_L6 piSegmentsNow tiLyingAlong tiSize evBundle evEventOf evCrossings s4.1 s4.2.1 s4.2.2) sg = some rg → (fX5_blame_J38 rg = some out → ∀ (H : Heap) (locs : List Loc) (ls : Array Slot), va_P (xsD X) vwCl (wK X kIsKept kIsStale hiLatest hiSize scBytes scTold scLength scFault scAt scNumber piSegmentsNow enKind enX enY enLower enFromX enFromY enToX enToY tiTouching tiLyingAlong tiMeetingPairs tiAlongPairs tiSize evX evY evLower evBundle evCrossingOf evEventOf evLeftEvent evRightEvent evSize evCrossings evSegmentsNow grDegree grEdges grFar grQueue grQueued huX huY huSize huBestX huBestY S Rw) H → va_D (xsF X) (wK X kIsKept kIsStale hiLatest hiSize scBytes scTold scLength scFault scAt scNumber piSegmentsNow enKind enX enY enLower enFromX enFromY enToX enToY tiTouching tiLyingAlong tiMeetingPairs tiAlongPairs tiSize evX evY evLower evBundle evCrossingOf evEventOf evLeftEvent evRightEvent evSize evCrossings evSegmentsNow grDegree grEdges grFar grQueue grQueued huX huY huSize huBestX huBestY S Rw) → va_S (xsF X) s.heap H locs → lv_has ls 5 [(0, .ref (xsA X 6)), (1, .int sg.1), (2, .int sg.2.1), (3, .int sg.2.2)] → W p l e { frames := 3, cells := 0, slots := 0, locals := 68 } s m ([.ref (xsA X 6)] : List Value).toArray below meth c H locs 0 0 (MQ below Qq ([.ref (xsA X 6)] : List Value).toArray s 0 0 (xsF X)) (F0 m 6 ls [])) := by
    refine xsWh_ind ?_
    intro sg r4 u4 hf ih4 hx4 hk4 H locs ls hP hD hS hl
    obtain ⟨y1, y2, y3⟩ := sg
    replace hf : fX5_blame_L6 piSegmentsNow tiLyingAlong tiSize evBundle evEventOf evCrossings y1 y2 y3 = some u4 := hf
    replace hl : lv_has ls 5 [(0, .ref (xsA X 6)), (1, .int y1), (2, .int y2), (3, .int y3)] := hl
    replace hP : va_P (xsD X) vwCl (wK X kIsKept kIsStale hiLatest hiSize scBytes scTold scLength scFault scAt scNumber piSegmentsNow enKind enX enY enLower enFromX enFromY enToX enToY tiTouching tiLyingAlong tiMeetingPairs tiAlongPairs tiSize evX evY evLower evBundle evCrossingOf evEventOf evLeftEvent evRightEvent evSize evCrossings evSegmentsNow grDegree grEdges grFar grQueue grQueued huX huY huSize huBestX huBestY S Rw) H := hP
    replace hD : va_D (xsF X) (wK X kIsKept kIsStale hiLatest hiSize scBytes scTold scLength scFault scAt scNumber piSegmentsNow enKind enX enY enLower enFromX enFromY enToX enToY tiTouching tiLyingAlong tiMeetingPairs tiAlongPairs tiSize evX evY evLower evBundle evCrossingOf evEventOf evLeftEvent evRightEvent evSize evCrossings evSegmentsNow grDegree grEdges grFar grQueue grQueued huX huY huSize huBestX huBestY S Rw) := hD
    unfold fX5_blame_L6 at hf
    refine lv_iload_n hx hb dX5_blame_6 rfl (lv_at hl 3 rfl) ?_
    refine lv_aload_n hx hb dX5_blame_7 rfl (lv_at hl 0 rfl) ?_
    refine xg_X5_39 C hP dX5_blame_8 ?_
    refine lv_icmp_ge (tgt := 38) hx hb dX5_blame_11 (by decide) (fun c15 => ?_) (fun c15 => ?_)
    · replace hf := xsBr_t c15 hf
      have ez := hx4 _ (Option.some.inj hf).symm
      subst ez
      exact K4 y1 hk4 H locs ls hP hD hS (lv_sub hl [1] rfl)
    · replace hf := xsBr_f c15 hf
      refine lv_aload_n hx hb dX5_blame_14 rfl (lv_at hl 0 rfl) ?_
      refine lv_iload_n hx hb dX5_blame_15 rfl (lv_at hl 3 rfl) ?_
      replace hf := xsBd_use hf
      obtain ⟨o6, h7, hf⟩ := hf
      refine xs_calli hS (xs_runV (As := [.int y3]) C (mX5_crossingsFewerWithout l  h7) w_716 w_718 w_11 w_109 w_719 hd_X5_crossingsFewerWithout ⟨rfl, rfl, Nat.le_of_ble_eq_true rfl, Nat.le_of_ble_eq_true rfl, Nat.zero_le _, Nat.zero_le _⟩ hP hD hS lk_X5 rfl hl.1 rfl (Nat.le_of_ble_eq_true rfl) dX5_blame_16) (fun H locs hP hD hS => ?_)
      refine lv_istore (lv' := [(4, .int o6), (0, .ref (xsA X 6)), (1, .int y1), (2, .int y2), (3, .int y3)]) hx hb dX5_blame_19 hl (by decide) rfl (fun ls hl => ?_)
      refine lv_iload hx hb dX5_blame_21 (lv_at hl 0 rfl) ?_
      refine lv_iload_n hx hb dX5_blame_23 rfl (lv_at hl 3 rfl) ?_
      have K13 : ∀ (y8 : Int32) (y9 : Int32) (hf : fX5_blame_J32 y3 y8 y9 = some u4) (H : Heap) (locs : List Loc) (ls : Array Slot), va_P (xsD X) vwCl (wK X kIsKept kIsStale hiLatest hiSize scBytes scTold scLength scFault scAt scNumber piSegmentsNow enKind enX enY enLower enFromX enFromY enToX enToY tiTouching tiLyingAlong tiMeetingPairs tiAlongPairs tiSize evX evY evLower evBundle evCrossingOf evEventOf evLeftEvent evRightEvent evSize evCrossings evSegmentsNow grDegree grEdges grFar grQueue grQueued huX huY huSize huBestX huBestY S Rw) H → va_D (xsF X) (wK X kIsKept kIsStale hiLatest hiSize scBytes scTold scLength scFault scAt scNumber piSegmentsNow enKind enX enY enLower enFromX enFromY enToX enToY tiTouching tiLyingAlong tiMeetingPairs tiAlongPairs tiSize evX evY evLower evBundle evCrossingOf evEventOf evLeftEvent evRightEvent evSize evCrossings evSegmentsNow grDegree grEdges grFar grQueue grQueued huX huY huSize huBestX huBestY S Rw) → va_S (xsF X) s.heap H locs → lv_has ls 5 [(0, .ref (xsA X 6)), (1, .int y8), (2, .int y9), (3, .int y3)] → W p l e { frames := 3, cells := 0, slots := 0, locals := 68 } s m ([.ref (xsA X 6)] : List Value).toArray below meth c H locs 0 0 (MQ below Qq ([.ref (xsA X 6)] : List Value).toArray s 0 0 (xsF X)) (F0 m 32 ls []) := by
        intro y8 y9 hf H locs ls hP hD hS hl
        unfold fX5_blame_J32 at hf
        obtain ⟨x10, ex10⟩ : ∃ y : Int32, y = y3 + (1 : Int32) := ⟨_, rfl⟩
        replace hf := xsLt_use ex10 hf
        refine lv_iinc (v := x10) (lv' := [(3, .int x10), (0, .ref (xsA X 6)), (1, .int y8), (2, .int y9)]) hx hb dX5_blame_32 hl (k := 3) rfl (by rw [ex10]; rfl) (by decide) rfl (fun ls hl => ?_)
        refine lv_goto (tgt := 6) hx hb dX5_blame_35 (by decide) ?_
        exact ih4 _ (Option.some.inj hf).symm hk4 H locs ls hP hD hS (lv_sub hl [1, 2, 3, 0] rfl)
      replace hf := xsBd_use hf
      obtain ⟨v11, hf, hk12⟩ := hf
      refine lv_icmp_le (tgt := 32) hx hb dX5_blame_24 (by decide) (fun c14 => ?_) (fun c14 => ?_)
      · replace hf := xsBr_t c14 hf
        have ev := Option.some.inj hf
        subst ev
        exact K13 y1 y2 hk12 H locs ls hP hD hS (lv_sub hl [1, 2, 3, 4] rfl)
      · replace hf := xsBr_f c14 hf
        refine lv_iload_n hx hb dX5_blame_27 rfl (lv_at hl 4 rfl) ?_
        refine lv_istore_n (lv' := [(1, .int y3), (4, .int o6), (0, .ref (xsA X 6)), (2, .int y2), (3, .int y3)]) hx hb dX5_blame_28 rfl hl (by decide) rfl (fun ls hl => ?_)
        refine lv_iload hx hb dX5_blame_29 (lv_at hl 1 rfl) ?_
        refine lv_istore_n (lv' := [(2, .int o6), (1, .int y3), (4, .int o6), (0, .ref (xsA X 6)), (3, .int y3)]) hx hb dX5_blame_31 rfl hl (by decide) rfl (fun ls hl => ?_)
        have ev := Option.some.inj hf
        subst ev
        exact K13 y3 o6 hk12 H locs ls hP hD hS (lv_sub hl [3, 1, 0, 4] rfl)
  exact L4 ((-1 : Int32), (-1 : Int32), (0 : Int32)) r4 hk40 hf H locs ls hP hD hS (lv_sub hl [3, 2, 1, 0] rfl)
set_option maxRecDepth 100000 in
set_option maxHeartbeats 8000000 in
theorem mX6_hasRoom (l : Launch) {X : xsX} {kIsKept kIsStale hiLatest hiSize scLength scFault scAt scNumber piSegmentsNow enKind enFromX enFromY enToX enToY tiMeetingPairs tiAlongPairs tiSize evSize evCrossings evSegmentsNow grEdges grQueued huSize huBestX huBestY : Int32} {scBytes scTold tiTouching tiLyingAlong evBundle evCrossingOf evEventOf evLeftEvent evRightEvent grDegree grFar grQueue huX huY : Nat → Int32} {enX enY enLower : Int64} {evX evY evLower : Nat → Int64} {S : Nat → xsV} {Rw : va_W} {out : Int32} (hf : fX6_hasRoom scLength = some out) : Met l yX6_hasRoom (xsWs yX6_hasRoom cX6_hasRoom 1 (some .boolean)) { frames := 0, cells := 0, slots := 0, locals := 0 } (xsP X (wK X kIsKept kIsStale hiLatest hiSize scBytes scTold scLength scFault scAt scNumber piSegmentsNow enKind enX enY enLower enFromX enFromY enToX enToY tiTouching tiLyingAlong tiMeetingPairs tiAlongPairs tiSize evX evY evLower evBundle evCrossingOf evEventOf evLeftEvent evRightEvent evSize evCrossings evSegmentsNow grDegree grEdges grFar grQueue grQueued huX huY huSize huBestX huBestY S Rw) [.ref (xsA X 3)]) (xsQi X out (wK X kIsKept kIsStale hiLatest hiSize scBytes scTold scLength scFault scAt scNumber piSegmentsNow enKind enX enY enLower enFromX enFromY enToX enToY tiTouching tiLyingAlong tiMeetingPairs tiAlongPairs tiSize evX evY evLower evBundle evCrossingOf evEventOf evLeftEvent evRightEvent evSize evCrossings evSegmentsNow grDegree grEdges grFar grQueue grQueued huX huY huSize huBestX huBestY S Rw)) 0 0 (xsF X) := by
  refine xs_meth RX6 (by decide) rfl (Nat.le_of_ble_eq_true rfl) ?_
  intro p e s m below meth c ls H locs C hP hD hS hr hlk hl
  have hx := C.1
  have hb := C.2.1
  have hl : lv_has ls 1 [(0, .ref (xsA X 3))] := hl
  obtain ⟨Qq, hQq⟩ : ∃ Qq, Qq = xsQi X out (wK X kIsKept kIsStale hiLatest hiSize scBytes scTold scLength scFault scAt scNumber piSegmentsNow enKind enX enY enLower enFromX enFromY enToX enToY tiTouching tiLyingAlong tiMeetingPairs tiAlongPairs tiSize evX evY evLower evBundle evCrossingOf evEventOf evLeftEvent evRightEvent evSize evCrossings evSegmentsNow grDegree grEdges grFar grQueue grQueued huX huY huSize huBestX huBestY S Rw) := ⟨_, rfl⟩
  rw [← hQq]
  unfold fX6_hasRoom at hf
  refine lv_aload_n hx hb dX6_hasRoom_0 rfl (lv_at hl 0 rfl) ?_
  refine xg_X6_26 C hP dX6_hasRoom_1 ?_
  refine lv_bipush (v := (20 : Int32)) hx hb dX6_hasRoom_4 (by decide) ?_
  refine lv_iadd hx hb dX6_hasRoom_6 ?_
  refine lv_sipush (v := (400 : Int32)) hx hb dX6_hasRoom_7 (by decide) ?_
  refine lv_icmp_gt (tgt := 17) hx hb dX6_hasRoom_10 (by decide) (fun c1 => ?_) (fun c1 => ?_)
  · replace hf := xsBr_t c1 hf
    refine lv_iconst (v := (0 : Int32)) hx hb dX6_hasRoom_17 (by decide) ?_
    have ho := Option.some.inj hf
    subst ho
    rw [hQq]
    exact xs_zret C hr hlk xsB_0 hP hD hS dX6_hasRoom_18
  · replace hf := xsBr_f c1 hf
    refine lv_iconst (v := (1 : Int32)) hx hb dX6_hasRoom_13 (by decide) ?_
    refine lv_goto (tgt := 18) hx hb dX6_hasRoom_14 (by decide) ?_
    have ho := Option.some.inj hf
    subst ho
    rw [hQq]
    exact xs_zret C hr hlk xsB_1 hP hD hS dX6_hasRoom_18
set_option maxRecDepth 100000 in
set_option maxHeartbeats 8000000 in
theorem mX6_shorten (l : Launch) {X : xsX} {kIsKept kIsStale hiLatest hiSize scLength scFault scAt scNumber piSegmentsNow enKind enFromX enFromY enToX enToY tiMeetingPairs tiAlongPairs tiSize evSize evCrossings evSegmentsNow grEdges grQueued huSize huBestX huBestY : Int32} {scBytes scTold tiTouching tiLyingAlong evBundle evCrossingOf evEventOf evLeftEvent evRightEvent grDegree grFar grQueue huX huY : Nat → Int32} {enX enY enLower : Int64} {evX evY evLower : Nat → Int64} {S : Nat → xsV} {Rw : va_W} {a0 : Int32} {out : Int32 × Int32} (hf : fX6_shorten scLength a0 = some out) : Met l yX6_shorten (xsWs yX6_shorten cX6_shorten 2 (some .boolean)) { frames := 0, cells := 0, slots := 0, locals := 0 } (xsP X (wK X kIsKept kIsStale hiLatest hiSize scBytes scTold scLength scFault scAt scNumber piSegmentsNow enKind enX enY enLower enFromX enFromY enToX enToY tiTouching tiLyingAlong tiMeetingPairs tiAlongPairs tiSize evX evY evLower evBundle evCrossingOf evEventOf evLeftEvent evRightEvent evSize evCrossings evSegmentsNow grDegree grEdges grFar grQueue grQueued huX huY huSize huBestX huBestY S Rw) [.ref (xsA X 3), .int a0]) (xsQi X out.1 (wK X kIsKept kIsStale hiLatest hiSize scBytes scTold out.2 scFault scAt scNumber piSegmentsNow enKind enX enY enLower enFromX enFromY enToX enToY tiTouching tiLyingAlong tiMeetingPairs tiAlongPairs tiSize evX evY evLower evBundle evCrossingOf evEventOf evLeftEvent evRightEvent evSize evCrossings evSegmentsNow grDegree grEdges grFar grQueue grQueued huX huY huSize huBestX huBestY S Rw)) 0 0 (xsF X) := by
  refine xs_meth RX6 (by decide) rfl (Nat.le_of_ble_eq_true rfl) ?_
  intro p e s m below meth c ls H locs C hP hD hS hr hlk hl
  have hx := C.1
  have hb := C.2.1
  have hl : lv_has ls 2 [(0, .ref (xsA X 3)), (1, .int a0)] := hl
  obtain ⟨Qq, hQq⟩ : ∃ Qq, Qq = xsQi X out.1 (wK X kIsKept kIsStale hiLatest hiSize scBytes scTold out.2 scFault scAt scNumber piSegmentsNow enKind enX enY enLower enFromX enFromY enToX enToY tiTouching tiLyingAlong tiMeetingPairs tiAlongPairs tiSize evX evY evLower evBundle evCrossingOf evEventOf evLeftEvent evRightEvent evSize evCrossings evSegmentsNow grDegree grEdges grFar grQueue grQueued huX huY huSize huBestX huBestY S Rw) := ⟨_, rfl⟩
  rw [← hQq]
  unfold fX6_shorten at hf
  refine lv_iload_n hx hb dX6_shorten_0 rfl (lv_at hl 1 rfl) ?_
  refine lv_if_lt (tgt := 12) hx hb dX6_shorten_1 (by decide) (fun c2 => ?_) (fun c2 => ?_)
  · replace hf := xsBr_t c2 hf
    refine lv_iconst (v := (0 : Int32)) hx hb dX6_shorten_12 (by decide) ?_
    have ho := Option.some.inj hf
    subst ho
    rw [hQq]
    exact xs_zret C hr hlk xsB_0 hP hD hS dX6_shorten_13
  · replace hf := xsBr_f c2 hf
    refine lv_iload_n hx hb dX6_shorten_4 rfl (lv_at hl 1 rfl) ?_
    refine lv_aload_n hx hb dX6_shorten_5 rfl (lv_at hl 0 rfl) ?_
    refine xg_X6_26 C hP dX6_shorten_6 ?_
    refine lv_icmp_le (tgt := 14) hx hb dX6_shorten_9 (by decide) (fun c1 => ?_) (fun c1 => ?_)
    · replace hf := xsBr_t c1 hf
      refine lv_aload_n hx hb dX6_shorten_14 rfl (lv_at hl 0 rfl) ?_
      refine lv_iload_n hx hb dX6_shorten_15 rfl (lv_at hl 1 rfl) ?_
      refine xp_X6_26 C hP hD hS dX6_shorten_16 (fun H locs hP hD hS => ?_)
      refine lv_iconst (v := (1 : Int32)) hx hb dX6_shorten_19 (by decide) ?_
      have ho := Option.some.inj hf
      subst ho
      rw [hQq]
      exact xs_zret C hr hlk xsB_1 hP hD hS dX6_shorten_20
    · replace hf := xsBr_f c1 hf
      refine lv_iconst (v := (0 : Int32)) hx hb dX6_shorten_12 (by decide) ?_
      have ho := Option.some.inj hf
      subst ho
      rw [hQq]
      exact xs_zret C hr hlk xsB_0 hP hD hS dX6_shorten_13
set_option maxRecDepth 100000 in
set_option maxHeartbeats 8000000 in
theorem mX6_skipBlanks (l : Launch) {X : xsX} {kIsKept kIsStale hiLatest hiSize scLength scFault scAt scNumber piSegmentsNow enKind enFromX enFromY enToX enToY tiMeetingPairs tiAlongPairs tiSize evSize evCrossings evSegmentsNow grEdges grQueued huSize huBestX huBestY : Int32} {scBytes scTold tiTouching tiLyingAlong evBundle evCrossingOf evEventOf evLeftEvent evRightEvent grDegree grFar grQueue huX huY : Nat → Int32} {enX enY enLower : Int64} {evX evY evLower : Nat → Int64} {S : Nat → xsV} {Rw : va_W} {out : Int32} (hf : fX6_skipBlanks scBytes scLength scAt = some out) : Met l yX6_skipBlanks (xsWs yX6_skipBlanks cX6_skipBlanks 1 none) { frames := 0, cells := 0, slots := 0, locals := 0 } (xsP X (wK X kIsKept kIsStale hiLatest hiSize scBytes scTold scLength scFault scAt scNumber piSegmentsNow enKind enX enY enLower enFromX enFromY enToX enToY tiTouching tiLyingAlong tiMeetingPairs tiAlongPairs tiSize evX evY evLower evBundle evCrossingOf evEventOf evLeftEvent evRightEvent evSize evCrossings evSegmentsNow grDegree grEdges grFar grQueue grQueued huX huY huSize huBestX huBestY S Rw) [.ref (xsA X 3)]) (xsQv X (wK X kIsKept kIsStale hiLatest hiSize scBytes scTold scLength scFault out scNumber piSegmentsNow enKind enX enY enLower enFromX enFromY enToX enToY tiTouching tiLyingAlong tiMeetingPairs tiAlongPairs tiSize evX evY evLower evBundle evCrossingOf evEventOf evLeftEvent evRightEvent evSize evCrossings evSegmentsNow grDegree grEdges grFar grQueue grQueued huX huY huSize huBestX huBestY S Rw)) 0 0 (xsF X) := by
  refine xs_meth RX6 (by decide) rfl (Nat.le_of_ble_eq_true rfl) ?_
  intro p e s m below meth c ls H locs C hP hD hS hr hlk hl
  have hx := C.1
  have hb := C.2.1
  have hl : lv_has ls 1 [(0, .ref (xsA X 3))] := hl
  obtain ⟨Qq, hQq⟩ : ∃ Qq, Qq = xsQv X (wK X kIsKept kIsStale hiLatest hiSize scBytes scTold scLength scFault out scNumber piSegmentsNow enKind enX enY enLower enFromX enFromY enToX enToY tiTouching tiLyingAlong tiMeetingPairs tiAlongPairs tiSize evX evY evLower evBundle evCrossingOf evEventOf evLeftEvent evRightEvent evSize evCrossings evSegmentsNow grDegree grEdges grFar grQueue grQueued huX huY huSize huBestX huBestY S Rw) := ⟨_, rfl⟩
  rw [← hQq]
  unfold fX6_skipBlanks at hf
  have K2 : ∀ (y3 : Int32) (hf : fX6_skipBlanks_J38 y3 = some out) (H : Heap) (locs : List Loc) (ls : Array Slot), va_P (xsD X) vwCl (wK X kIsKept kIsStale hiLatest hiSize scBytes scTold scLength scFault y3 scNumber piSegmentsNow enKind enX enY enLower enFromX enFromY enToX enToY tiTouching tiLyingAlong tiMeetingPairs tiAlongPairs tiSize evX evY evLower evBundle evCrossingOf evEventOf evLeftEvent evRightEvent evSize evCrossings evSegmentsNow grDegree grEdges grFar grQueue grQueued huX huY huSize huBestX huBestY S Rw) H → va_D (xsF X) (wK X kIsKept kIsStale hiLatest hiSize scBytes scTold scLength scFault y3 scNumber piSegmentsNow enKind enX enY enLower enFromX enFromY enToX enToY tiTouching tiLyingAlong tiMeetingPairs tiAlongPairs tiSize evX evY evLower evBundle evCrossingOf evEventOf evLeftEvent evRightEvent evSize evCrossings evSegmentsNow grDegree grEdges grFar grQueue grQueued huX huY huSize huBestX huBestY S Rw) → va_S (xsF X) s.heap H locs → lv_has ls 1 [] → W p l e { frames := 0, cells := 0, slots := 0, locals := 0 } s m ([.ref (xsA X 3)] : List Value).toArray below meth c H locs 0 0 (MQ below Qq ([.ref (xsA X 3)] : List Value).toArray s 0 0 (xsF X)) (F0 m 38 ls []) := by
    intro y3 hf H locs ls hP hD hS hl
    unfold fX6_skipBlanks_J38 at hf
    have ho := Option.some.inj hf
    subst ho
    rw [hQq]
    exact xs_vret C hr hlk hP hD hS dX6_skipBlanks_38
  replace hf := xsBd_use hf
  obtain ⟨r2, hk20, hf⟩ := hf
  have L2 : ∀ (sg : Int32) (rg : Int32), xsWh (fun s2 => fX6_skipBlanks_L0 scBytes scLength s2) sg = some rg → (fX6_skipBlanks_J38 rg = some out → ∀ (H : Heap) (locs : List Loc) (ls : Array Slot), va_P (xsD X) vwCl (wK X kIsKept kIsStale hiLatest hiSize scBytes scTold scLength scFault sg scNumber piSegmentsNow enKind enX enY enLower enFromX enFromY enToX enToY tiTouching tiLyingAlong tiMeetingPairs tiAlongPairs tiSize evX evY evLower evBundle evCrossingOf evEventOf evLeftEvent evRightEvent evSize evCrossings evSegmentsNow grDegree grEdges grFar grQueue grQueued huX huY huSize huBestX huBestY S Rw) H → va_D (xsF X) (wK X kIsKept kIsStale hiLatest hiSize scBytes scTold scLength scFault sg scNumber piSegmentsNow enKind enX enY enLower enFromX enFromY enToX enToY tiTouching tiLyingAlong tiMeetingPairs tiAlongPairs tiSize evX evY evLower evBundle evCrossingOf evEventOf evLeftEvent evRightEvent evSize evCrossings evSegmentsNow grDegree grEdges grFar grQueue grQueued huX huY huSize huBestX huBestY S Rw) → va_S (xsF X) s.heap H locs → lv_has ls 1 [(0, .ref (xsA X 3))] → W p l e { frames := 0, cells := 0, slots := 0, locals := 0 } s m ([.ref (xsA X 3)] : List Value).toArray below meth c H locs 0 0 (MQ below Qq ([.ref (xsA X 3)] : List Value).toArray s 0 0 (xsF X)) (F0 m 0 ls [])) := by
    refine xsWh_ind ?_
    intro sg r2 u2 hf ih2 hx2 hk2 H locs ls hP hD hS hl
    obtain ⟨y1, ey⟩ : ∃ z, z = sg := ⟨_, rfl⟩
    subst ey
    replace hf : fX6_skipBlanks_L0 scBytes scLength y1 = some u2 := hf
    replace hl : lv_has ls 1 [(0, .ref (xsA X 3))] := hl
    replace hP : va_P (xsD X) vwCl (wK X kIsKept kIsStale hiLatest hiSize scBytes scTold scLength scFault y1 scNumber piSegmentsNow enKind enX enY enLower enFromX enFromY enToX enToY tiTouching tiLyingAlong tiMeetingPairs tiAlongPairs tiSize evX evY evLower evBundle evCrossingOf evEventOf evLeftEvent evRightEvent evSize evCrossings evSegmentsNow grDegree grEdges grFar grQueue grQueued huX huY huSize huBestX huBestY S Rw) H := hP
    replace hD : va_D (xsF X) (wK X kIsKept kIsStale hiLatest hiSize scBytes scTold scLength scFault y1 scNumber piSegmentsNow enKind enX enY enLower enFromX enFromY enToX enToY tiTouching tiLyingAlong tiMeetingPairs tiAlongPairs tiSize evX evY evLower evBundle evCrossingOf evEventOf evLeftEvent evRightEvent evSize evCrossings evSegmentsNow grDegree grEdges grFar grQueue grQueued huX huY huSize huBestX huBestY S Rw) := hD
    unfold fX6_skipBlanks_L0 at hf
    refine lv_aload_n hx hb dX6_skipBlanks_0 rfl (lv_at hl 0 rfl) ?_
    refine xg_X6_33 C hP dX6_skipBlanks_1 ?_
    refine lv_aload_n hx hb dX6_skipBlanks_4 rfl (lv_at hl 0 rfl) ?_
    refine xg_X6_26 C hP dX6_skipBlanks_5 ?_
    refine lv_icmp_ge (tgt := 38) hx hb dX6_skipBlanks_8 (by decide) (fun c7 => ?_) (fun c7 => ?_)
    · replace hf := xsBr_t c7 hf
      have ez := hx2 _ (Option.some.inj hf).symm
      subst ez
      exact K2 y1 hk2 H locs ls hP hD hS (lv_sub hl [] rfl)
    · replace hf := xsBr_f c7 hf
      refine lv_aload_n hx hb dX6_skipBlanks_11 rfl (lv_at hl 0 rfl) ?_
      refine xg_X6_9 C hP dX6_skipBlanks_12 ?_
      refine lv_aload_n hx hb dX6_skipBlanks_15 rfl (lv_at hl 0 rfl) ?_
      refine xg_X6_33 C hP dX6_skipBlanks_16 ?_
      replace hf := xsCk_use hf
      obtain ⟨h4, hf⟩ := hf
      refine xl_scBytes C hP h4 dX6_skipBlanks_19 ?_
      refine lv_bipush (v := (32 : Int32)) hx hb dX6_skipBlanks_20 (by decide) ?_
      refine lv_icmp_ne (tgt := 38) hx hb dX6_skipBlanks_22 (by decide) (fun c6 => ?_) (fun c6 => ?_)
      · replace hf := xsBr_f c6 hf
        have ez := hx2 _ (Option.some.inj hf).symm
        subst ez
        exact K2 y1 hk2 H locs ls hP hD hS (lv_sub hl [] rfl)
      · replace hf := xsBr_t c6 hf
        refine lv_aload_n hx hb dX6_skipBlanks_25 rfl (lv_at hl 0 rfl) ?_
        refine lv_dup hx hb dX6_skipBlanks_26 rfl ?_
        refine xg_X6_33 C hP dX6_skipBlanks_27 ?_
        refine lv_iconst (v := (1 : Int32)) hx hb dX6_skipBlanks_30 (by decide) ?_
        refine lv_iadd hx hb dX6_skipBlanks_31 ?_
        refine lv_topi (fun x5 ex5 => ?_)
        replace hf := xsLt_use ex5 hf
        refine xp_X6_33 C hP hD hS dX6_skipBlanks_32 (fun H locs hP hD hS => ?_)
        refine lv_goto (tgt := 0) hx hb dX6_skipBlanks_35 (by decide) ?_
        exact ih2 _ (Option.some.inj hf).symm hk2 H locs ls hP hD hS (lv_sub hl [0] rfl)
  exact L2 scAt r2 hk20 hf H locs ls hP hD hS (lv_sub hl [0] rfl)
set_option maxRecDepth 100000 in
set_option maxHeartbeats 8000000 in
theorem mX6_refuse (l : Launch) {X : xsX} {kIsKept kIsStale hiLatest hiSize scLength scFault scAt scNumber piSegmentsNow enKind enFromX enFromY enToX enToY tiMeetingPairs tiAlongPairs tiSize evSize evCrossings evSegmentsNow grEdges grQueued huSize huBestX huBestY : Int32} {scBytes scTold tiTouching tiLyingAlong evBundle evCrossingOf evEventOf evLeftEvent evRightEvent grDegree grFar grQueue huX huY : Nat → Int32} {enX enY enLower : Int64} {evX evY evLower : Nat → Int64} {S : Nat → xsV} {Rw : va_W} {a0 : Int32} {out : Int32 × Int32} (hf : fX6_refuse scFault a0 = some out) : Met l yX6_refuse (xsWs yX6_refuse cX6_refuse 2 (some .boolean)) { frames := 0, cells := 0, slots := 0, locals := 0 } (xsP X (wK X kIsKept kIsStale hiLatest hiSize scBytes scTold scLength scFault scAt scNumber piSegmentsNow enKind enX enY enLower enFromX enFromY enToX enToY tiTouching tiLyingAlong tiMeetingPairs tiAlongPairs tiSize evX evY evLower evBundle evCrossingOf evEventOf evLeftEvent evRightEvent evSize evCrossings evSegmentsNow grDegree grEdges grFar grQueue grQueued huX huY huSize huBestX huBestY S Rw) [.ref (xsA X 3), .int a0]) (xsQi X out.1 (wK X kIsKept kIsStale hiLatest hiSize scBytes scTold scLength out.2 scAt scNumber piSegmentsNow enKind enX enY enLower enFromX enFromY enToX enToY tiTouching tiLyingAlong tiMeetingPairs tiAlongPairs tiSize evX evY evLower evBundle evCrossingOf evEventOf evLeftEvent evRightEvent evSize evCrossings evSegmentsNow grDegree grEdges grFar grQueue grQueued huX huY huSize huBestX huBestY S Rw)) 0 0 (xsF X) := by
  refine xs_meth RX6 (by decide) rfl (Nat.le_of_ble_eq_true rfl) ?_
  intro p e s m below meth c ls H locs C hP hD hS hr hlk hl
  have hx := C.1
  have hb := C.2.1
  have hl : lv_has ls 2 [(0, .ref (xsA X 3)), (1, .int a0)] := hl
  obtain ⟨Qq, hQq⟩ : ∃ Qq, Qq = xsQi X out.1 (wK X kIsKept kIsStale hiLatest hiSize scBytes scTold scLength out.2 scAt scNumber piSegmentsNow enKind enX enY enLower enFromX enFromY enToX enToY tiTouching tiLyingAlong tiMeetingPairs tiAlongPairs tiSize evX evY evLower evBundle evCrossingOf evEventOf evLeftEvent evRightEvent evSize evCrossings evSegmentsNow grDegree grEdges grFar grQueue grQueued huX huY huSize huBestX huBestY S Rw) := ⟨_, rfl⟩
  rw [← hQq]
  unfold fX6_refuse at hf
  refine lv_aload_n hx hb dX6_refuse_0 rfl (lv_at hl 0 rfl) ?_
  refine lv_iload_n hx hb dX6_refuse_1 rfl (lv_at hl 1 rfl) ?_
  refine xp_X6_30 C hP hD hS dX6_refuse_2 (fun H locs hP hD hS => ?_)
  refine lv_iconst (v := (0 : Int32)) hx hb dX6_refuse_5 (by decide) ?_
  have ho := Option.some.inj hf
  subst ho
  rw [hQq]
  exact xs_zret C hr hlk xsB_0 hP hD hS dX6_refuse_6
set_option maxRecDepth 100000 in
set_option maxHeartbeats 8000000 in
theorem mX6_readBreak (l : Launch) {X : xsX} {kIsKept kIsStale hiLatest hiSize scLength scFault scAt scNumber piSegmentsNow enKind enFromX enFromY enToX enToY tiMeetingPairs tiAlongPairs tiSize evSize evCrossings evSegmentsNow grEdges grQueued huSize huBestX huBestY : Int32} {scBytes scTold tiTouching tiLyingAlong evBundle evCrossingOf evEventOf evLeftEvent evRightEvent grDegree grFar grQueue huX huY : Nat → Int32} {enX enY enLower : Int64} {evX evY evLower : Nat → Int64} {S : Nat → xsV} {Rw : va_W} {out : Int32 × Int32 × Int32} (hf : fX6_readBreak scBytes scLength scFault scAt = some out) : Met l yX6_readBreak (xsWs yX6_readBreak cX6_readBreak 1 (some .boolean)) { frames := 1, cells := 0, slots := 0, locals := 21 } (xsP X (wK X kIsKept kIsStale hiLatest hiSize scBytes scTold scLength scFault scAt scNumber piSegmentsNow enKind enX enY enLower enFromX enFromY enToX enToY tiTouching tiLyingAlong tiMeetingPairs tiAlongPairs tiSize evX evY evLower evBundle evCrossingOf evEventOf evLeftEvent evRightEvent evSize evCrossings evSegmentsNow grDegree grEdges grFar grQueue grQueued huX huY huSize huBestX huBestY S Rw) [.ref (xsA X 3)]) (xsQi X out.1 (wK X kIsKept kIsStale hiLatest hiSize scBytes scTold scLength out.2.1 out.2.2 scNumber piSegmentsNow enKind enX enY enLower enFromX enFromY enToX enToY tiTouching tiLyingAlong tiMeetingPairs tiAlongPairs tiSize evX evY evLower evBundle evCrossingOf evEventOf evLeftEvent evRightEvent evSize evCrossings evSegmentsNow grDegree grEdges grFar grQueue grQueued huX huY huSize huBestX huBestY S Rw)) 0 0 (xsF X) := by
  refine xs_meth RX6 (by decide) rfl (Nat.le_of_ble_eq_true rfl) ?_
  intro p e s m below meth c ls H locs C hP hD hS hr hlk hl
  have hx := C.1
  have hb := C.2.1
  have hl : lv_has ls 1 [(0, .ref (xsA X 3))] := hl
  obtain ⟨Qq, hQq⟩ : ∃ Qq, Qq = xsQi X out.1 (wK X kIsKept kIsStale hiLatest hiSize scBytes scTold scLength out.2.1 out.2.2 scNumber piSegmentsNow enKind enX enY enLower enFromX enFromY enToX enToY tiTouching tiLyingAlong tiMeetingPairs tiAlongPairs tiSize evX evY evLower evBundle evCrossingOf evEventOf evLeftEvent evRightEvent evSize evCrossings evSegmentsNow grDegree grEdges grFar grQueue grQueued huX huY huSize huBestX huBestY S Rw) := ⟨_, rfl⟩
  rw [← hQq]
  unfold fX6_readBreak at hf
  refine lv_aload_n hx hb dX6_readBreak_0 rfl (lv_at hl 0 rfl) ?_
  replace hf := xsBd_use hf
  obtain ⟨o1, h2, hf⟩ := hf
  refine xs_callv hS (xs_runV (As := []) C (mX6_skipBlanks l  h2) w_778 w_780 w_15 w_108 w_781 hd_X6_skipBlanks ⟨rfl, rfl, Nat.le_of_ble_eq_true rfl, Nat.le_of_ble_eq_true rfl, Nat.zero_le _, Nat.zero_le _⟩ hP hD hS lk_X6 rfl hl.1 rfl (Nat.le_of_ble_eq_true rfl) dX6_readBreak_1) (fun H locs hP hD hS => ?_)
  refine lv_aload_n hx hb dX6_readBreak_4 rfl (lv_at hl 0 rfl) ?_
  refine xg_X6_33 C hP dX6_readBreak_5 ?_
  refine lv_aload_n hx hb dX6_readBreak_8 rfl (lv_at hl 0 rfl) ?_
  refine xg_X6_26 C hP dX6_readBreak_9 ?_
  refine lv_icmp_lt (tgt := 17) hx hb dX6_readBreak_12 (by decide) (fun c9 => ?_) (fun c9 => ?_)
  · replace hf := xsBr_t c9 hf
    refine lv_aload_n hx hb dX6_readBreak_17 rfl (lv_at hl 0 rfl) ?_
    refine xg_X6_9 C hP dX6_readBreak_18 ?_
    refine lv_aload_n hx hb dX6_readBreak_21 rfl (lv_at hl 0 rfl) ?_
    refine xg_X6_33 C hP dX6_readBreak_22 ?_
    replace hf := xsCk_use hf
    obtain ⟨h3, hf⟩ := hf
    refine xl_scBytes C hP h3 dX6_readBreak_25 ?_
    refine lv_bipush (v := (59 : Int32)) hx hb dX6_readBreak_26 (by decide) ?_
    refine lv_icmp_eq (tgt := 40) hx hb dX6_readBreak_28 (by decide) (fun c8 => ?_) (fun c8 => ?_)
    · replace hf := xsBr_t c8 hf
      refine lv_aload_n hx hb dX6_readBreak_40 rfl (lv_at hl 0 rfl) ?_
      refine lv_dup hx hb dX6_readBreak_41 rfl ?_
      refine xg_X6_33 C hP dX6_readBreak_42 ?_
      refine lv_iconst (v := (1 : Int32)) hx hb dX6_readBreak_45 (by decide) ?_
      refine lv_iadd hx hb dX6_readBreak_46 ?_
      refine lv_topi (fun x4 ex4 => ?_)
      replace hf := xsLt_use ex4 hf
      refine xp_X6_33 C hP hD hS dX6_readBreak_47 (fun H locs hP hD hS => ?_)
      refine lv_iconst (v := (1 : Int32)) hx hb dX6_readBreak_50 (by decide) ?_
      have ho := Option.some.inj hf
      subst ho
      rw [hQq]
      exact xs_zret C hr hlk xsB_1 hP hD hS dX6_readBreak_51
    · replace hf := xsBr_f c8 hf
      refine lv_aload_n hx hb dX6_readBreak_31 rfl (lv_at hl 0 rfl) ?_
      refine lv_aload_n hx hb dX6_readBreak_32 rfl (lv_at hl 0 rfl) ?_
      refine xg_X6_33 C hP dX6_readBreak_33 ?_
      replace hf := xsBd_use hf
      obtain ⟨o5, h6, hf⟩ := hf
      refine xs_calli hS (xs_runV (As := [.int o1]) C (mX6_refuse l  h6) w_851 w_853 w_21 w_108 w_854 hd_X6_refuse ⟨rfl, rfl, Nat.le_of_ble_eq_true rfl, Nat.le_of_ble_eq_true rfl, Nat.zero_le _, Nat.zero_le _⟩ hP hD hS lk_X6 rfl hl.1 rfl (Nat.le_of_ble_eq_true rfl) dX6_readBreak_36) (fun H locs hP hD hS => ?_)
      replace hf := xsCk_use hf
      obtain ⟨h7, hf⟩ := hf
      have ho := Option.some.inj hf
      subst ho
      rw [hQq]
      exact xs_zret C hr hlk h7 hP hD hS dX6_readBreak_39
  · replace hf := xsBr_f c9 hf
    refine lv_iconst (v := (0 : Int32)) hx hb dX6_readBreak_15 (by decide) ?_
    have ho := Option.some.inj hf
    subst ho
    rw [hQq]
    exact xs_zret C hr hlk xsB_0 hP hD hS dX6_readBreak_16
set_option maxRecDepth 100000 in
set_option maxHeartbeats 8000000 in
theorem mX6_readDigits (l : Launch) {X : xsX} {kIsKept kIsStale hiLatest hiSize scLength scFault scAt scNumber piSegmentsNow enKind enFromX enFromY enToX enToY tiMeetingPairs tiAlongPairs tiSize evSize evCrossings evSegmentsNow grEdges grQueued huSize huBestX huBestY : Int32} {scBytes scTold tiTouching tiLyingAlong evBundle evCrossingOf evEventOf evLeftEvent evRightEvent grDegree grFar grQueue huX huY : Nat → Int32} {enX enY enLower : Int64} {evX evY evLower : Nat → Int64} {S : Nat → xsV} {Rw : va_W} {a0 : Int32} {out : Int32 × Int32 × Int32 × Int32} (hf : fX6_readDigits scBytes scLength scFault scAt scNumber a0 = some out) : Met l yX6_readDigits (xsWs yX6_readDigits cX6_readDigits 4 (some .boolean)) { frames := 1, cells := 0, slots := 0, locals := 21 } (xsP X (wK X kIsKept kIsStale hiLatest hiSize scBytes scTold scLength scFault scAt scNumber piSegmentsNow enKind enX enY enLower enFromX enFromY enToX enToY tiTouching tiLyingAlong tiMeetingPairs tiAlongPairs tiSize evX evY evLower evBundle evCrossingOf evEventOf evLeftEvent evRightEvent evSize evCrossings evSegmentsNow grDegree grEdges grFar grQueue grQueued huX huY huSize huBestX huBestY S Rw) [.ref (xsA X 3), .int a0]) (xsQi X out.1 (wK X kIsKept kIsStale hiLatest hiSize scBytes scTold scLength out.2.1 out.2.2.1 out.2.2.2 piSegmentsNow enKind enX enY enLower enFromX enFromY enToX enToY tiTouching tiLyingAlong tiMeetingPairs tiAlongPairs tiSize evX evY evLower evBundle evCrossingOf evEventOf evLeftEvent evRightEvent evSize evCrossings evSegmentsNow grDegree grEdges grFar grQueue grQueued huX huY huSize huBestX huBestY S Rw)) 0 0 (xsF X) := by
  refine xs_meth RX6 (by decide) rfl (Nat.le_of_ble_eq_true rfl) ?_
  intro p e s m below meth c ls H locs C hP hD hS hr hlk hl
  have hx := C.1
  have hb := C.2.1
  have hl : lv_has ls 4 [(0, .ref (xsA X 3)), (1, .int a0)] := hl
  obtain ⟨Qq, hQq⟩ : ∃ Qq, Qq = xsQi X out.1 (wK X kIsKept kIsStale hiLatest hiSize scBytes scTold scLength out.2.1 out.2.2.1 out.2.2.2 piSegmentsNow enKind enX enY enLower enFromX enFromY enToX enToY tiTouching tiLyingAlong tiMeetingPairs tiAlongPairs tiSize evX evY evLower evBundle evCrossingOf evEventOf evLeftEvent evRightEvent evSize evCrossings evSegmentsNow grDegree grEdges grFar grQueue grQueued huX huY huSize huBestX huBestY S Rw) := ⟨_, rfl⟩
  rw [← hQq]
  unfold fX6_readDigits at hf
  refine lv_aload_n hx hb dX6_readDigits_0 rfl (lv_at hl 0 rfl) ?_
  refine xg_X6_33 C hP dX6_readDigits_1 ?_
  refine lv_istore_n (lv' := [(2, .int scAt), (0, .ref (xsA X 3)), (1, .int a0)]) hx hb dX6_readDigits_4 rfl hl (by decide) rfl (fun ls hl => ?_)
  refine lv_iconst (v := (0 : Int32)) hx hb dX6_readDigits_5 (by decide) ?_
  refine lv_istore_n (lv' := [(3, .int (0 : Int32)), (2, .int scAt), (0, .ref (xsA X 3)), (1, .int a0)]) hx hb dX6_readDigits_6 rfl hl (by decide) rfl (fun ls hl => ?_)
  have K3 : ∀ (y4 : Int32) (y5 : Int32) (hf : fX6_readDigits_J87 scFault scAt a0 y4 y5 = some out) (H : Heap) (locs : List Loc) (ls : Array Slot), va_P (xsD X) vwCl (wK X kIsKept kIsStale hiLatest hiSize scBytes scTold scLength scFault y5 scNumber piSegmentsNow enKind enX enY enLower enFromX enFromY enToX enToY tiTouching tiLyingAlong tiMeetingPairs tiAlongPairs tiSize evX evY evLower evBundle evCrossingOf evEventOf evLeftEvent evRightEvent evSize evCrossings evSegmentsNow grDegree grEdges grFar grQueue grQueued huX huY huSize huBestX huBestY S Rw) H → va_D (xsF X) (wK X kIsKept kIsStale hiLatest hiSize scBytes scTold scLength scFault y5 scNumber piSegmentsNow enKind enX enY enLower enFromX enFromY enToX enToY tiTouching tiLyingAlong tiMeetingPairs tiAlongPairs tiSize evX evY evLower evBundle evCrossingOf evEventOf evLeftEvent evRightEvent evSize evCrossings evSegmentsNow grDegree grEdges grFar grQueue grQueued huX huY huSize huBestX huBestY S Rw) → va_S (xsF X) s.heap H locs → lv_has ls 4 [(0, .ref (xsA X 3)), (1, .int a0), (2, .int scAt), (3, .int y4)] → W p l e { frames := 1, cells := 0, slots := 0, locals := 21 } s m ([.ref (xsA X 3), .int a0] : List Value).toArray below meth c H locs 0 0 (MQ below Qq ([.ref (xsA X 3), .int a0] : List Value).toArray s 0 0 (xsF X)) (F0 m 87 ls []) := by
    intro y4 y5 hf H locs ls hP hD hS hl
    unfold fX6_readDigits_J87 at hf
    refine lv_aload_n hx hb dX6_readDigits_87 rfl (lv_at hl 0 rfl) ?_
    refine lv_iload_n hx hb dX6_readDigits_88 rfl (lv_at hl 3 rfl) ?_
    refine xp_X6_36 C hP hD hS dX6_readDigits_89 (fun H locs hP hD hS => ?_)
    refine lv_aload_n hx hb dX6_readDigits_92 rfl (lv_at hl 0 rfl) ?_
    refine xg_X6_33 C hP dX6_readDigits_93 ?_
    refine lv_iload_n hx hb dX6_readDigits_96 rfl (lv_at hl 2 rfl) ?_
    refine lv_icmp_ne (tgt := 109) hx hb dX6_readDigits_97 (by decide) (fun c13 => ?_) (fun c13 => ?_)
    · replace hf := xsBr_f c13 hf
      refine lv_aload_n hx hb dX6_readDigits_109 rfl (lv_at hl 0 rfl) ?_
      refine xg_X6_33 C hP dX6_readDigits_110 ?_
      refine lv_iload_n hx hb dX6_readDigits_113 rfl (lv_at hl 2 rfl) ?_
      refine lv_isub hx hb dX6_readDigits_114 ?_
      refine lv_iconst (v := (3 : Int32)) hx hb dX6_readDigits_115 (by decide) ?_
      refine lv_icmp_le (tgt := 127) hx hb dX6_readDigits_116 (by decide) (fun c9 => ?_) (fun c9 => ?_)
      · replace hf := xsBr_t c9 hf
        refine lv_iconst (v := (1 : Int32)) hx hb dX6_readDigits_127 (by decide) ?_
        refine lv_goto (tgt := 132) hx hb dX6_readDigits_128 (by decide) ?_
        have ho := Option.some.inj hf
        subst ho
        rw [hQq]
        exact xs_zret C hr hlk xsB_1 hP hD hS dX6_readDigits_132
      · replace hf := xsBr_f c9 hf
        refine lv_aload_n hx hb dX6_readDigits_119 rfl (lv_at hl 0 rfl) ?_
        refine lv_iload_n hx hb dX6_readDigits_120 rfl (lv_at hl 1 rfl) ?_
        replace hf := xsBd_use hf
        obtain ⟨o6, h7, hf⟩ := hf
        refine xs_calli hS (xs_runV (As := [.int a0]) C (mX6_refuse l  h7) w_851 w_853 w_21 w_108 w_854 hd_X6_refuse ⟨rfl, rfl, Nat.le_of_ble_eq_true rfl, Nat.le_of_ble_eq_true rfl, Nat.zero_le _, Nat.zero_le _⟩ hP hD hS lk_X6 rfl hl.1 rfl (Nat.le_of_ble_eq_true rfl) dX6_readDigits_121) (fun H locs hP hD hS => ?_)
        refine lv_if_eq (tgt := 131) hx hb dX6_readDigits_124 (by decide) (fun c8 => ?_) (fun c8 => ?_)
        · replace hf := xsBr_t c8 hf
          refine lv_iconst (v := (0 : Int32)) hx hb dX6_readDigits_131 (by decide) ?_
          have ho := Option.some.inj hf
          subst ho
          rw [hQq]
          exact xs_zret C hr hlk xsB_0 hP hD hS dX6_readDigits_132
        · replace hf := xsBr_f c8 hf
          refine lv_iconst (v := (1 : Int32)) hx hb dX6_readDigits_127 (by decide) ?_
          refine lv_goto (tgt := 132) hx hb dX6_readDigits_128 (by decide) ?_
          have ho := Option.some.inj hf
          subst ho
          rw [hQq]
          exact xs_zret C hr hlk xsB_1 hP hD hS dX6_readDigits_132
    · replace hf := xsBr_t c13 hf
      refine lv_aload_n hx hb dX6_readDigits_100 rfl (lv_at hl 0 rfl) ?_
      refine lv_aload_n hx hb dX6_readDigits_101 rfl (lv_at hl 0 rfl) ?_
      refine xg_X6_33 C hP dX6_readDigits_102 ?_
      replace hf := xsBd_use hf
      obtain ⟨o10, h11, hf⟩ := hf
      refine xs_calli hS (xs_runV (As := [.int y5]) C (mX6_refuse l  h11) w_851 w_853 w_21 w_108 w_854 hd_X6_refuse ⟨rfl, rfl, Nat.le_of_ble_eq_true rfl, Nat.le_of_ble_eq_true rfl, Nat.zero_le _, Nat.zero_le _⟩ hP hD hS lk_X6 rfl hl.1 rfl (Nat.le_of_ble_eq_true rfl) dX6_readDigits_105) (fun H locs hP hD hS => ?_)
      replace hf := xsCk_use hf
      obtain ⟨h12, hf⟩ := hf
      have ho := Option.some.inj hf
      subst ho
      rw [hQq]
      exact xs_zret C hr hlk h12 hP hD hS dX6_readDigits_108
  replace hf := xsBd_use hf
  obtain ⟨r3, hk30, hf⟩ := hf
  have L3 : ∀ (sg : Int32 × Int32) (rg : Int32 × Int32), xsWh (fun s3 => fX6_readDigits_L7 scBytes scLength scAt s3.1 s3.2) sg = some rg → (fX6_readDigits_J87 scFault scAt a0 rg.1 rg.2 = some out → ∀ (H : Heap) (locs : List Loc) (ls : Array Slot), va_P (xsD X) vwCl (wK X kIsKept kIsStale hiLatest hiSize scBytes scTold scLength scFault sg.2 scNumber piSegmentsNow enKind enX enY enLower enFromX enFromY enToX enToY tiTouching tiLyingAlong tiMeetingPairs tiAlongPairs tiSize evX evY evLower evBundle evCrossingOf evEventOf evLeftEvent evRightEvent evSize evCrossings evSegmentsNow grDegree grEdges grFar grQueue grQueued huX huY huSize huBestX huBestY S Rw) H → va_D (xsF X) (wK X kIsKept kIsStale hiLatest hiSize scBytes scTold scLength scFault sg.2 scNumber piSegmentsNow enKind enX enY enLower enFromX enFromY enToX enToY tiTouching tiLyingAlong tiMeetingPairs tiAlongPairs tiSize evX evY evLower evBundle evCrossingOf evEventOf evLeftEvent evRightEvent evSize evCrossings evSegmentsNow grDegree grEdges grFar grQueue grQueued huX huY huSize huBestX huBestY S Rw) → va_S (xsF X) s.heap H locs → lv_has ls 4 [(0, .ref (xsA X 3)), (1, .int a0), (2, .int scAt), (3, .int sg.1)] → W p l e { frames := 1, cells := 0, slots := 0, locals := 21 } s m ([.ref (xsA X 3), .int a0] : List Value).toArray below meth c H locs 0 0 (MQ below Qq ([.ref (xsA X 3), .int a0] : List Value).toArray s 0 0 (xsF X)) (F0 m 7 ls [])) := by
    refine xsWh_ind ?_
    intro sg r3 u3 hf ih3 hx3 hk3 H locs ls hP hD hS hl
    obtain ⟨y1, y2⟩ := sg
    replace hf : fX6_readDigits_L7 scBytes scLength scAt y1 y2 = some u3 := hf
    replace hl : lv_has ls 4 [(0, .ref (xsA X 3)), (1, .int a0), (2, .int scAt), (3, .int y1)] := hl
    replace hP : va_P (xsD X) vwCl (wK X kIsKept kIsStale hiLatest hiSize scBytes scTold scLength scFault y2 scNumber piSegmentsNow enKind enX enY enLower enFromX enFromY enToX enToY tiTouching tiLyingAlong tiMeetingPairs tiAlongPairs tiSize evX evY evLower evBundle evCrossingOf evEventOf evLeftEvent evRightEvent evSize evCrossings evSegmentsNow grDegree grEdges grFar grQueue grQueued huX huY huSize huBestX huBestY S Rw) H := hP
    replace hD : va_D (xsF X) (wK X kIsKept kIsStale hiLatest hiSize scBytes scTold scLength scFault y2 scNumber piSegmentsNow enKind enX enY enLower enFromX enFromY enToX enToY tiTouching tiLyingAlong tiMeetingPairs tiAlongPairs tiSize evX evY evLower evBundle evCrossingOf evEventOf evLeftEvent evRightEvent evSize evCrossings evSegmentsNow grDegree grEdges grFar grQueue grQueued huX huY huSize huBestX huBestY S Rw) := hD
    unfold fX6_readDigits_L7 at hf
    refine lv_aload_n hx hb dX6_readDigits_7 rfl (lv_at hl 0 rfl) ?_
    refine xg_X6_33 C hP dX6_readDigits_8 ?_
    refine lv_aload_n hx hb dX6_readDigits_11 rfl (lv_at hl 0 rfl) ?_
    refine xg_X6_26 C hP dX6_readDigits_12 ?_
    refine lv_icmp_ge (tgt := 87) hx hb dX6_readDigits_15 (by decide) (fun c26 => ?_) (fun c26 => ?_)
    · replace hf := xsBr_t c26 hf
      have ez := hx3 _ (Option.some.inj hf).symm
      subst ez
      exact K3 y1 y2 hk3 H locs ls hP hD hS (lv_sub hl [0, 1, 2, 3] rfl)
    · replace hf := xsBr_f c26 hf
      refine lv_aload_n hx hb dX6_readDigits_18 rfl (lv_at hl 0 rfl) ?_
      refine xg_X6_9 C hP dX6_readDigits_19 ?_
      refine lv_aload_n hx hb dX6_readDigits_22 rfl (lv_at hl 0 rfl) ?_
      refine xg_X6_33 C hP dX6_readDigits_23 ?_
      replace hf := xsCk_use hf
      obtain ⟨h14, hf⟩ := hf
      refine xl_scBytes C hP h14 dX6_readDigits_26 ?_
      refine lv_bipush (v := (48 : Int32)) hx hb dX6_readDigits_27 (by decide) ?_
      refine lv_icmp_lt (tgt := 87) hx hb dX6_readDigits_29 (by decide) (fun c25 => ?_) (fun c25 => ?_)
      · replace hf := xsBr_t c25 hf
        have ez := hx3 _ (Option.some.inj hf).symm
        subst ez
        exact K3 y1 y2 hk3 H locs ls hP hD hS (lv_sub hl [0, 1, 2, 3] rfl)
      · replace hf := xsBr_f c25 hf
        refine lv_aload_n hx hb dX6_readDigits_32 rfl (lv_at hl 0 rfl) ?_
        refine xg_X6_9 C hP dX6_readDigits_33 ?_
        refine lv_aload_n hx hb dX6_readDigits_36 rfl (lv_at hl 0 rfl) ?_
        refine xg_X6_33 C hP dX6_readDigits_37 ?_
        replace hf := xsCk_use hf
        obtain ⟨h15, hf⟩ := hf
        refine xl_scBytes C hP h15 dX6_readDigits_40 ?_
        refine lv_bipush (v := (57 : Int32)) hx hb dX6_readDigits_41 (by decide) ?_
        refine lv_icmp_gt (tgt := 87) hx hb dX6_readDigits_43 (by decide) (fun c24 => ?_) (fun c24 => ?_)
        · replace hf := xsBr_t c24 hf
          have ez := hx3 _ (Option.some.inj hf).symm
          subst ez
          exact K3 y1 y2 hk3 H locs ls hP hD hS (lv_sub hl [0, 1, 2, 3] rfl)
        · replace hf := xsBr_f c24 hf
          refine lv_aload_n hx hb dX6_readDigits_46 rfl (lv_at hl 0 rfl) ?_
          refine xg_X6_33 C hP dX6_readDigits_47 ?_
          refine lv_iload_n hx hb dX6_readDigits_50 rfl (lv_at hl 2 rfl) ?_
          refine lv_isub hx hb dX6_readDigits_51 ?_
          refine lv_iconst (v := (3 : Int32)) hx hb dX6_readDigits_52 (by decide) ?_
          have K20 : ∀ (y16 : Int32) (hf : fX6_readDigits_J74 y2 y16 = some u3) (H : Heap) (locs : List Loc) (ls : Array Slot), va_P (xsD X) vwCl (wK X kIsKept kIsStale hiLatest hiSize scBytes scTold scLength scFault y2 scNumber piSegmentsNow enKind enX enY enLower enFromX enFromY enToX enToY tiTouching tiLyingAlong tiMeetingPairs tiAlongPairs tiSize evX evY evLower evBundle evCrossingOf evEventOf evLeftEvent evRightEvent evSize evCrossings evSegmentsNow grDegree grEdges grFar grQueue grQueued huX huY huSize huBestX huBestY S Rw) H → va_D (xsF X) (wK X kIsKept kIsStale hiLatest hiSize scBytes scTold scLength scFault y2 scNumber piSegmentsNow enKind enX enY enLower enFromX enFromY enToX enToY tiTouching tiLyingAlong tiMeetingPairs tiAlongPairs tiSize evX evY evLower evBundle evCrossingOf evEventOf evLeftEvent evRightEvent evSize evCrossings evSegmentsNow grDegree grEdges grFar grQueue grQueued huX huY huSize huBestX huBestY S Rw) → va_S (xsF X) s.heap H locs → lv_has ls 4 [(0, .ref (xsA X 3)), (1, .int a0), (2, .int scAt), (3, .int y16)] → W p l e { frames := 1, cells := 0, slots := 0, locals := 21 } s m ([.ref (xsA X 3), .int a0] : List Value).toArray below meth c H locs 0 0 (MQ below Qq ([.ref (xsA X 3), .int a0] : List Value).toArray s 0 0 (xsF X)) (F0 m 74 ls []) := by
            intro y16 hf H locs ls hP hD hS hl
            unfold fX6_readDigits_J74 at hf
            refine lv_aload_n hx hb dX6_readDigits_74 rfl (lv_at hl 0 rfl) ?_
            refine lv_dup hx hb dX6_readDigits_75 rfl ?_
            refine xg_X6_33 C hP dX6_readDigits_76 ?_
            refine lv_iconst (v := (1 : Int32)) hx hb dX6_readDigits_79 (by decide) ?_
            refine lv_iadd hx hb dX6_readDigits_80 ?_
            refine lv_topi (fun x17 ex17 => ?_)
            replace hf := xsLt_use ex17 hf
            refine xp_X6_33 C hP hD hS dX6_readDigits_81 (fun H locs hP hD hS => ?_)
            refine lv_goto (tgt := 7) hx hb dX6_readDigits_84 (by decide) ?_
            exact ih3 _ (Option.some.inj hf).symm hk3 H locs ls hP hD hS (lv_sub hl [0, 1, 2, 3] rfl)
          replace hf := xsBd_use hf
          obtain ⟨v18, hf, hk19⟩ := hf
          refine lv_icmp_ge (tgt := 74) hx hb dX6_readDigits_53 (by decide) (fun c23 => ?_) (fun c23 => ?_)
          · replace hf := xsBr_t c23 hf
            have ev := Option.some.inj hf
            subst ev
            exact K20 y1 hk19 H locs ls hP hD hS (lv_sub hl [0, 1, 2, 3] rfl)
          · replace hf := xsBr_f c23 hf
            refine lv_iload_n hx hb dX6_readDigits_56 rfl (lv_at hl 3 rfl) ?_
            refine lv_bipush (v := (10 : Int32)) hx hb dX6_readDigits_57 (by decide) ?_
            refine lv_imul hx hb dX6_readDigits_59 ?_
            refine lv_aload_n hx hb dX6_readDigits_60 rfl (lv_at hl 0 rfl) ?_
            refine xg_X6_9 C hP dX6_readDigits_61 ?_
            refine lv_aload_n hx hb dX6_readDigits_64 rfl (lv_at hl 0 rfl) ?_
            refine xg_X6_33 C hP dX6_readDigits_65 ?_
            replace hf := xsCk_use hf
            obtain ⟨h21, hf⟩ := hf
            refine xl_scBytes C hP h21 dX6_readDigits_68 ?_
            refine lv_iadd hx hb dX6_readDigits_69 ?_
            refine lv_bipush (v := (48 : Int32)) hx hb dX6_readDigits_70 (by decide) ?_
            refine lv_isub hx hb dX6_readDigits_72 ?_
            refine lv_topi (fun x22 ex22 => ?_)
            replace hf := xsLt_use ex22 hf
            refine lv_istore_n (lv' := [(3, .int x22), (0, .ref (xsA X 3)), (1, .int a0), (2, .int scAt)]) hx hb dX6_readDigits_73 rfl hl (by decide) rfl (fun ls hl => ?_)
            have ev := Option.some.inj hf
            subst ev
            exact K20 x22 hk19 H locs ls hP hD hS (lv_sub hl [1, 2, 3, 0] rfl)
  exact L3 ((0 : Int32), scAt) r3 hk30 hf H locs ls hP hD hS (lv_sub hl [2, 3, 1, 0] rfl)
set_option maxRecDepth 100000 in
set_option maxHeartbeats 8000000 in
theorem mX6_readNumber (l : Launch) {X : xsX} {kIsKept kIsStale hiLatest hiSize scLength scFault scAt scNumber piSegmentsNow enKind enFromX enFromY enToX enToY tiMeetingPairs tiAlongPairs tiSize evSize evCrossings evSegmentsNow grEdges grQueued huSize huBestX huBestY : Int32} {scBytes scTold tiTouching tiLyingAlong evBundle evCrossingOf evEventOf evLeftEvent evRightEvent grDegree grFar grQueue huX huY : Nat → Int32} {enX enY enLower : Int64} {evX evY evLower : Nat → Int64} {S : Nat → xsV} {Rw : va_W} {a0 : Int32} {out : Int32 × Int32 × Int32 × Int32} (hf : fX6_readNumber scBytes scLength scFault scAt scNumber a0 = some out) : Met l yX6_readNumber (xsWs yX6_readNumber cX6_readNumber 3 (some .boolean)) { frames := 2, cells := 0, slots := 0, locals := 44 } (xsP X (wK X kIsKept kIsStale hiLatest hiSize scBytes scTold scLength scFault scAt scNumber piSegmentsNow enKind enX enY enLower enFromX enFromY enToX enToY tiTouching tiLyingAlong tiMeetingPairs tiAlongPairs tiSize evX evY evLower evBundle evCrossingOf evEventOf evLeftEvent evRightEvent evSize evCrossings evSegmentsNow grDegree grEdges grFar grQueue grQueued huX huY huSize huBestX huBestY S Rw) [.ref (xsA X 3), .int a0]) (xsQi X out.1 (wK X kIsKept kIsStale hiLatest hiSize scBytes scTold scLength out.2.1 out.2.2.1 out.2.2.2 piSegmentsNow enKind enX enY enLower enFromX enFromY enToX enToY tiTouching tiLyingAlong tiMeetingPairs tiAlongPairs tiSize evX evY evLower evBundle evCrossingOf evEventOf evLeftEvent evRightEvent evSize evCrossings evSegmentsNow grDegree grEdges grFar grQueue grQueued huX huY huSize huBestX huBestY S Rw)) 0 0 (xsF X) := by
  refine xs_meth RX6 (by decide) rfl (Nat.le_of_ble_eq_true rfl) ?_
  intro p e s m below meth c ls H locs C hP hD hS hr hlk hl
  have hx := C.1
  have hb := C.2.1
  have hl : lv_has ls 3 [(0, .ref (xsA X 3)), (1, .int a0)] := hl
  obtain ⟨Qq, hQq⟩ : ∃ Qq, Qq = xsQi X out.1 (wK X kIsKept kIsStale hiLatest hiSize scBytes scTold scLength out.2.1 out.2.2.1 out.2.2.2 piSegmentsNow enKind enX enY enLower enFromX enFromY enToX enToY tiTouching tiLyingAlong tiMeetingPairs tiAlongPairs tiSize evX evY evLower evBundle evCrossingOf evEventOf evLeftEvent evRightEvent evSize evCrossings evSegmentsNow grDegree grEdges grFar grQueue grQueued huX huY huSize huBestX huBestY S Rw) := ⟨_, rfl⟩
  rw [← hQq]
  unfold fX6_readNumber at hf
  refine lv_aload_n hx hb dX6_readNumber_0 rfl (lv_at hl 0 rfl) ?_
  replace hf := xsBd_use hf
  obtain ⟨o1, h2, hf⟩ := hf
  refine xs_callv hS (xs_runV (As := []) C (mX6_skipBlanks l  h2) w_778 w_780 w_15 w_108 w_781 hd_X6_skipBlanks ⟨rfl, rfl, Nat.le_of_ble_eq_true rfl, Nat.le_of_ble_eq_true rfl, Nat.zero_le _, Nat.zero_le _⟩ hP hD hS lk_X6 rfl hl.1 rfl (Nat.le_of_ble_eq_true rfl) dX6_readNumber_1) (fun H locs hP hD hS => ?_)
  refine lv_aload_n hx hb dX6_readNumber_4 rfl (lv_at hl 0 rfl) ?_
  refine xg_X6_33 C hP dX6_readNumber_5 ?_
  refine lv_istore_n (lv' := [(2, .int o1), (0, .ref (xsA X 3)), (1, .int a0)]) hx hb dX6_readNumber_8 rfl hl (by decide) rfl (fun ls hl => ?_)
  refine lv_aload_n hx hb dX6_readNumber_9 rfl (lv_at hl 1 rfl) ?_
  refine lv_iload_n hx hb dX6_readNumber_10 rfl (lv_at hl 0 rfl) ?_
  replace hf := xsBd_use hf
  obtain ⟨o3, h4, hf⟩ := hf
  refine xs_calli hS (xs_runV (As := [.int o1]) C (mX6_readDigits l  h4) w_847 w_849 w_20 w_108 w_850 hd_X6_readDigits ⟨rfl, rfl, Nat.le_of_ble_eq_true rfl, Nat.le_of_ble_eq_true rfl, Nat.zero_le _, Nat.zero_le _⟩ hP hD hS lk_X6 rfl hl.1 rfl (Nat.le_of_ble_eq_true rfl) dX6_readNumber_11) (fun H locs hP hD hS => ?_)
  refine lv_if_ne (tgt := 19) hx hb dX6_readNumber_14 (by decide) (fun c9 => ?_) (fun c9 => ?_)
  · replace hf := xsBr_f c9 hf
    refine lv_aload_n hx hb dX6_readNumber_19 rfl (lv_at hl 1 rfl) ?_
    refine xg_X6_36 C hP dX6_readNumber_20 ?_
    refine lv_iload_n hx hb dX6_readNumber_23 rfl (lv_at hl 2 rfl) ?_
    refine lv_icmp_le (tgt := 35) hx hb dX6_readNumber_24 (by decide) (fun c8 => ?_) (fun c8 => ?_)
    · replace hf := xsBr_t c8 hf
      refine lv_iconst (v := (1 : Int32)) hx hb dX6_readNumber_35 (by decide) ?_
      refine lv_goto (tgt := 40) hx hb dX6_readNumber_36 (by decide) ?_
      have ho := Option.some.inj hf
      subst ho
      rw [hQq]
      exact xs_zret C hr hlk xsB_1 hP hD hS dX6_readNumber_40
    · replace hf := xsBr_f c8 hf
      refine lv_aload_n hx hb dX6_readNumber_27 rfl (lv_at hl 1 rfl) ?_
      refine lv_iload_n hx hb dX6_readNumber_28 rfl (lv_at hl 0 rfl) ?_
      replace hf := xsBd_use hf
      obtain ⟨o5, h6, hf⟩ := hf
      refine xs_calli hS (xs_runV (As := [.int o1]) C (mX6_refuse l  h6) w_851 w_853 w_21 w_108 w_854 hd_X6_refuse ⟨rfl, rfl, Nat.le_of_ble_eq_true rfl, Nat.le_of_ble_eq_true rfl, Nat.zero_le _, Nat.zero_le _⟩ hP hD hS lk_X6 rfl hl.1 rfl (Nat.le_of_ble_eq_true rfl) dX6_readNumber_29) (fun H locs hP hD hS => ?_)
      refine lv_if_eq (tgt := 39) hx hb dX6_readNumber_32 (by decide) (fun c7 => ?_) (fun c7 => ?_)
      · replace hf := xsBr_t c7 hf
        refine lv_iconst (v := (0 : Int32)) hx hb dX6_readNumber_39 (by decide) ?_
        have ho := Option.some.inj hf
        subst ho
        rw [hQq]
        exact xs_zret C hr hlk xsB_0 hP hD hS dX6_readNumber_40
      · replace hf := xsBr_f c7 hf
        refine lv_iconst (v := (1 : Int32)) hx hb dX6_readNumber_35 (by decide) ?_
        refine lv_goto (tgt := 40) hx hb dX6_readNumber_36 (by decide) ?_
        have ho := Option.some.inj hf
        subst ho
        rw [hQq]
        exact xs_zret C hr hlk xsB_1 hP hD hS dX6_readNumber_40
  · replace hf := xsBr_t c9 hf
    refine lv_iconst (v := (0 : Int32)) hx hb dX6_readNumber_17 (by decide) ?_
    have ho := Option.some.inj hf
    subst ho
    rw [hQq]
    exact xs_zret C hr hlk xsB_0 hP hD hS dX6_readNumber_18
set_option maxRecDepth 100000 in
set_option maxHeartbeats 8000000 in
theorem mX6_readCut (l : Launch) {X : xsX} {kIsKept kIsStale hiLatest hiSize scLength scFault scAt scNumber piSegmentsNow enKind enFromX enFromY enToX enToY tiMeetingPairs tiAlongPairs tiSize evSize evCrossings evSegmentsNow grEdges grQueued huSize huBestX huBestY : Int32} {scBytes scTold tiTouching tiLyingAlong evBundle evCrossingOf evEventOf evLeftEvent evRightEvent grDegree grFar grQueue huX huY : Nat → Int32} {enX enY enLower : Int64} {evX evY evLower : Nat → Int64} {S : Nat → xsV} {Rw : va_W} {g3Lx g3Ly g3Rx g3Ry g3Ti : Nat → Int32} {g3Sz : Int32} (hs_3 : S 3 = (g3Lx, g3Ly, g3Rx, g3Ry, g3Ti, g3Sz)) {out : Int32 × Int32 × Int32 × Int32 × (Nat → Int32) × (Nat → Int32) × (Nat → Int32) × (Nat → Int32) × (Nat → Int32) × Int32} (hf : fX6_readCut scBytes scLength scFault scAt scNumber g3Lx g3Ly g3Rx g3Ry g3Ti g3Sz = some out) : Met l yX6_readCut (xsWs yX6_readCut cX6_readCut 1 (some .boolean)) { frames := 3, cells := 0, slots := 0, locals := 66 } (xsP X (wK X kIsKept kIsStale hiLatest hiSize scBytes scTold scLength scFault scAt scNumber piSegmentsNow enKind enX enY enLower enFromX enFromY enToX enToY tiTouching tiLyingAlong tiMeetingPairs tiAlongPairs tiSize evX evY evLower evBundle evCrossingOf evEventOf evLeftEvent evRightEvent evSize evCrossings evSegmentsNow grDegree grEdges grFar grQueue grQueued huX huY huSize huBestX huBestY S Rw) [.ref (xsA X 3)]) (xsQi X out.1 (wK X kIsKept kIsStale hiLatest hiSize scBytes scTold scLength out.2.1 out.2.2.1 out.2.2.2.1 piSegmentsNow enKind enX enY enLower enFromX enFromY enToX enToY tiTouching tiLyingAlong tiMeetingPairs tiAlongPairs tiSize evX evY evLower evBundle evCrossingOf evEventOf evLeftEvent evRightEvent evSize evCrossings evSegmentsNow grDegree grEdges grFar grQueue grQueued huX huY huSize huBestX huBestY (xsSu S 3 (out.2.2.2.2.1, out.2.2.2.2.2.1, out.2.2.2.2.2.2.1, out.2.2.2.2.2.2.2.1, out.2.2.2.2.2.2.2.2.1, out.2.2.2.2.2.2.2.2.2)) Rw)) 0 0 (xsF X) := by
  refine xs_meth RX6 (by decide) rfl (Nat.le_of_ble_eq_true rfl) ?_
  intro p e s m below meth c ls H locs C hP hD hS hr hlk hl
  have hx := C.1
  have hb := C.2.1
  have hl : lv_has ls 1 [(0, .ref (xsA X 3))] := hl
  obtain ⟨Qq, hQq⟩ : ∃ Qq, Qq = xsQi X out.1 (wK X kIsKept kIsStale hiLatest hiSize scBytes scTold scLength out.2.1 out.2.2.1 out.2.2.2.1 piSegmentsNow enKind enX enY enLower enFromX enFromY enToX enToY tiTouching tiLyingAlong tiMeetingPairs tiAlongPairs tiSize evX evY evLower evBundle evCrossingOf evEventOf evLeftEvent evRightEvent evSize evCrossings evSegmentsNow grDegree grEdges grFar grQueue grQueued huX huY huSize huBestX huBestY (xsSu S 3 (out.2.2.2.2.1, out.2.2.2.2.2.1, out.2.2.2.2.2.2.1, out.2.2.2.2.2.2.2.1, out.2.2.2.2.2.2.2.2.1, out.2.2.2.2.2.2.2.2.2)) Rw) := ⟨_, rfl⟩
  rw [← hQq]
  unfold fX6_readCut at hf
  refine lv_aload_n hx hb dX6_readCut_0 rfl (lv_at hl 0 rfl) ?_
  refine lv_aload_n hx hb dX6_readCut_1 rfl (lv_at hl 0 rfl) ?_
  refine xg_X6_22 C hP dX6_readCut_2 ?_
  refine xg_X6_99 (j := 3) (by decide) hs_3 C hP dX6_readCut_5 ?_
  refine lv_iconst (v := (1 : Int32)) hx hb dX6_readCut_8 (by decide) ?_
  refine lv_isub hx hb dX6_readCut_9 ?_
  replace hf := xsBd_use hf
  obtain ⟨o1, h2, hf⟩ := hf
  refine xs_calli hS (xs_runV (As := [.int (g3Sz - (1 : Int32))]) C (mX6_readNumber l  h2) w_856 w_858 w_22 w_108 w_859 hd_X6_readNumber ⟨rfl, rfl, Nat.le_of_ble_eq_true rfl, Nat.le_of_ble_eq_true rfl, Nat.zero_le _, Nat.zero_le _⟩ hP hD hS lk_X6 rfl hl.1 rfl (Nat.le_of_ble_eq_true rfl) dX6_readCut_10) (fun H locs hP hD hS => ?_)
  refine lv_if_ne (tgt := 18) hx hb dX6_readCut_13 (by decide) (fun c5 => ?_) (fun c5 => ?_)
  · replace hf := xsBr_f c5 hf
    refine lv_aload_n hx hb dX6_readCut_18 rfl (lv_at hl 0 rfl) ?_
    refine xg_X6_22 C hP dX6_readCut_19 ?_
    refine lv_aload_n hx hb dX6_readCut_22 rfl (lv_at hl 0 rfl) ?_
    refine xg_X6_36 C hP dX6_readCut_23 ?_
    replace hf := xsBd_use hf
    obtain ⟨o3, h4, hf⟩ := hf
    refine xs_callv hS (xs_runV (As := [.int o1.2.2.2]) C (mX7_drop l (js := 3) (by decide) hs_3 h4) w_874 w_875 w_876 w_106 w_877 hd_X7_drop ⟨rfl, rfl, Nat.le_of_ble_eq_true rfl, Nat.le_of_ble_eq_true rfl, Nat.zero_le _, Nat.zero_le _⟩ hP hD hS (xs_lkS (by decide)) rfl hl.1 rfl (Nat.le_of_ble_eq_true rfl) dX6_readCut_26) (fun H locs hP hD hS => ?_)
    refine lv_iconst (v := (1 : Int32)) hx hb dX6_readCut_29 (by decide) ?_
    have ho := Option.some.inj hf
    subst ho
    rw [hQq]
    exact xs_zret C hr hlk xsB_1 hP hD hS dX6_readCut_30
  · replace hf := xsBr_t c5 hf
    refine lv_iconst (v := (0 : Int32)) hx hb dX6_readCut_16 (by decide) ?_
    have ho := Option.some.inj hf
    subst ho
    rw [hQq]
    rw [← xsSu_self (hs_3)] at hP hD
    exact xs_zret C hr hlk xsB_0 hP hD hS dX6_readCut_17
set_option maxRecDepth 100000 in
set_option maxHeartbeats 8000000 in
theorem mX6_readTint (l : Launch) {X : xsX} {kIsKept kIsStale hiLatest hiSize scLength scFault scAt scNumber piSegmentsNow enKind enFromX enFromY enToX enToY tiMeetingPairs tiAlongPairs tiSize evSize evCrossings evSegmentsNow grEdges grQueued huSize huBestX huBestY : Int32} {scBytes scTold tiTouching tiLyingAlong evBundle evCrossingOf evEventOf evLeftEvent evRightEvent grDegree grFar grQueue huX huY : Nat → Int32} {enX enY enLower : Int64} {evX evY evLower : Nat → Int64} {S : Nat → xsV} {Rw : va_W} {g3Lx g3Ly g3Rx g3Ry g3Ti : Nat → Int32} {g3Sz : Int32} (hs_3 : S 3 = (g3Lx, g3Ly, g3Rx, g3Ry, g3Ti, g3Sz)) {out : Int32 × Int32 × Int32 × Int32 × (Nat → Int32)} (hf : fX6_readTint scBytes scLength scFault scAt scNumber g3Ti g3Sz = some out) : Met l yX6_readTint (xsWs yX6_readTint cX6_readTint 2 (some .boolean)) { frames := 3, cells := 0, slots := 0, locals := 66 } (xsP X (wK X kIsKept kIsStale hiLatest hiSize scBytes scTold scLength scFault scAt scNumber piSegmentsNow enKind enX enY enLower enFromX enFromY enToX enToY tiTouching tiLyingAlong tiMeetingPairs tiAlongPairs tiSize evX evY evLower evBundle evCrossingOf evEventOf evLeftEvent evRightEvent evSize evCrossings evSegmentsNow grDegree grEdges grFar grQueue grQueued huX huY huSize huBestX huBestY S Rw) [.ref (xsA X 3)]) (xsQi X out.1 (wK X kIsKept kIsStale hiLatest hiSize scBytes scTold scLength out.2.1 out.2.2.1 out.2.2.2.1 piSegmentsNow enKind enX enY enLower enFromX enFromY enToX enToY tiTouching tiLyingAlong tiMeetingPairs tiAlongPairs tiSize evX evY evLower evBundle evCrossingOf evEventOf evLeftEvent evRightEvent evSize evCrossings evSegmentsNow grDegree grEdges grFar grQueue grQueued huX huY huSize huBestX huBestY (xsSu S 3 (g3Lx, g3Ly, g3Rx, g3Ry, out.2.2.2.2, g3Sz)) Rw)) 0 0 (xsF X) := by
  refine xs_meth RX6 (by decide) rfl (Nat.le_of_ble_eq_true rfl) ?_
  intro p e s m below meth c ls H locs C hP hD hS hr hlk hl
  have hx := C.1
  have hb := C.2.1
  have hl : lv_has ls 2 [(0, .ref (xsA X 3))] := hl
  obtain ⟨Qq, hQq⟩ : ∃ Qq, Qq = xsQi X out.1 (wK X kIsKept kIsStale hiLatest hiSize scBytes scTold scLength out.2.1 out.2.2.1 out.2.2.2.1 piSegmentsNow enKind enX enY enLower enFromX enFromY enToX enToY tiTouching tiLyingAlong tiMeetingPairs tiAlongPairs tiSize evX evY evLower evBundle evCrossingOf evEventOf evLeftEvent evRightEvent evSize evCrossings evSegmentsNow grDegree grEdges grFar grQueue grQueued huX huY huSize huBestX huBestY (xsSu S 3 (g3Lx, g3Ly, g3Rx, g3Ry, out.2.2.2.2, g3Sz)) Rw) := ⟨_, rfl⟩
  rw [← hQq]
  unfold fX6_readTint at hf
  refine lv_aload_n hx hb dX6_readTint_0 rfl (lv_at hl 0 rfl) ?_
  refine lv_aload_n hx hb dX6_readTint_1 rfl (lv_at hl 0 rfl) ?_
  refine xg_X6_22 C hP dX6_readTint_2 ?_
  refine xg_X6_99 (j := 3) (by decide) hs_3 C hP dX6_readTint_5 ?_
  refine lv_iconst (v := (1 : Int32)) hx hb dX6_readTint_8 (by decide) ?_
  refine lv_isub hx hb dX6_readTint_9 ?_
  replace hf := xsBd_use hf
  obtain ⟨o1, h2, hf⟩ := hf
  refine xs_calli hS (xs_runV (As := [.int (g3Sz - (1 : Int32))]) C (mX6_readNumber l  h2) w_856 w_858 w_22 w_108 w_859 hd_X6_readNumber ⟨rfl, rfl, Nat.le_of_ble_eq_true rfl, Nat.le_of_ble_eq_true rfl, Nat.zero_le _, Nat.zero_le _⟩ hP hD hS lk_X6 rfl hl.1 rfl (Nat.le_of_ble_eq_true rfl) dX6_readTint_10) (fun H locs hP hD hS => ?_)
  refine lv_if_ne (tgt := 18) hx hb dX6_readTint_13 (by decide) (fun c8 => ?_) (fun c8 => ?_)
  · replace hf := xsBr_f c8 hf
    refine lv_aload_n hx hb dX6_readTint_18 rfl (lv_at hl 0 rfl) ?_
    refine xg_X6_36 C hP dX6_readTint_19 ?_
    refine lv_istore_n (lv' := [(1, .int o1.2.2.2), (0, .ref (xsA X 3))]) hx hb dX6_readTint_22 rfl hl (by decide) rfl (fun ls hl => ?_)
    refine lv_aload_n hx hb dX6_readTint_23 rfl (lv_at hl 1 rfl) ?_
    refine lv_iconst (v := (3 : Int32)) hx hb dX6_readTint_24 (by decide) ?_
    replace hf := xsBd_use hf
    obtain ⟨o3, h4, hf⟩ := hf
    refine xs_calli hS (xs_runV (As := [.int (3 : Int32)]) C (mX6_readNumber l  h4) w_856 w_858 w_22 w_108 w_859 hd_X6_readNumber ⟨rfl, rfl, Nat.le_of_ble_eq_true rfl, Nat.le_of_ble_eq_true rfl, Nat.zero_le _, Nat.zero_le _⟩ hP hD hS lk_X6 rfl hl.1 rfl (Nat.le_of_ble_eq_true rfl) dX6_readTint_25) (fun H locs hP hD hS => ?_)
    refine lv_if_ne (tgt := 33) hx hb dX6_readTint_28 (by decide) (fun c7 => ?_) (fun c7 => ?_)
    · replace hf := xsBr_f c7 hf
      refine lv_aload_n hx hb dX6_readTint_33 rfl (lv_at hl 1 rfl) ?_
      refine xg_X6_22 C hP dX6_readTint_34 ?_
      refine xg_X6_116 (j := 3) (by decide) C hP dX6_readTint_37 ?_
      refine lv_iload_n hx hb dX6_readTint_40 rfl (lv_at hl 0 rfl) ?_
      refine lv_aload_n hx hb dX6_readTint_41 rfl (lv_at hl 1 rfl) ?_
      refine xg_X6_36 C hP dX6_readTint_42 ?_
      replace hf := xsCk_use hf
      obtain ⟨h5, hf⟩ := hf
      refine xs_s4 (j := 3) (by decide) hs_3 (fun f' => (xsSu S 3 (g3Lx, g3Ly, g3Rx, g3Ry, f', g3Sz))) (fun f' => rfl) C hP hD hS h5 dX6_readTint_45 (fun f6 ef6 H locs hP hD hS hz => ?_)
      clear hz
      replace hf := xsLt_use ef6 hf
      refine lv_iconst (v := (1 : Int32)) hx hb dX6_readTint_46 (by decide) ?_
      have ho := Option.some.inj hf
      subst ho
      rw [hQq]
      exact xs_zret C hr hlk xsB_1 hP hD hS dX6_readTint_47
    · replace hf := xsBr_t c7 hf
      refine lv_iconst (v := (0 : Int32)) hx hb dX6_readTint_31 (by decide) ?_
      have ho := Option.some.inj hf
      subst ho
      rw [hQq]
      rw [← xsSu_self (hs_3)] at hP hD
      exact xs_zret C hr hlk xsB_0 hP hD hS dX6_readTint_32
  · replace hf := xsBr_t c8 hf
    refine lv_iconst (v := (0 : Int32)) hx hb dX6_readTint_16 (by decide) ?_
    have ho := Option.some.inj hf
    subst ho
    rw [hQq]
    rw [← xsSu_self (hs_3)] at hP hD
    exact xs_zret C hr hlk xsB_0 hP hD hS dX6_readTint_17
set_option maxRecDepth 100000 in
set_option maxHeartbeats 8000000 in
theorem mX6_readSigned (l : Launch) {X : xsX} {kIsKept kIsStale hiLatest hiSize scLength scFault scAt scNumber piSegmentsNow enKind enFromX enFromY enToX enToY tiMeetingPairs tiAlongPairs tiSize evSize evCrossings evSegmentsNow grEdges grQueued huSize huBestX huBestY : Int32} {scBytes scTold tiTouching tiLyingAlong evBundle evCrossingOf evEventOf evLeftEvent evRightEvent grDegree grFar grQueue huX huY : Nat → Int32} {enX enY enLower : Int64} {evX evY evLower : Nat → Int64} {S : Nat → xsV} {Rw : va_W} {out : Int32 × Int32 × Int32 × Int32} (hf : fX6_readSigned scBytes scLength scFault scAt scNumber = some out) : Met l yX6_readSigned (xsWs yX6_readSigned cX6_readSigned 3 (some .boolean)) { frames := 2, cells := 0, slots := 0, locals := 44 } (xsP X (wK X kIsKept kIsStale hiLatest hiSize scBytes scTold scLength scFault scAt scNumber piSegmentsNow enKind enX enY enLower enFromX enFromY enToX enToY tiTouching tiLyingAlong tiMeetingPairs tiAlongPairs tiSize evX evY evLower evBundle evCrossingOf evEventOf evLeftEvent evRightEvent evSize evCrossings evSegmentsNow grDegree grEdges grFar grQueue grQueued huX huY huSize huBestX huBestY S Rw) [.ref (xsA X 3)]) (xsQi X out.1 (wK X kIsKept kIsStale hiLatest hiSize scBytes scTold scLength out.2.1 out.2.2.1 out.2.2.2 piSegmentsNow enKind enX enY enLower enFromX enFromY enToX enToY tiTouching tiLyingAlong tiMeetingPairs tiAlongPairs tiSize evX evY evLower evBundle evCrossingOf evEventOf evLeftEvent evRightEvent evSize evCrossings evSegmentsNow grDegree grEdges grFar grQueue grQueued huX huY huSize huBestX huBestY S Rw)) 0 0 (xsF X) := by
  refine xs_meth RX6 (by decide) rfl (Nat.le_of_ble_eq_true rfl) ?_
  intro p e s m below meth c ls H locs C hP hD hS hr hlk hl
  have hx := C.1
  have hb := C.2.1
  have hl : lv_has ls 3 [(0, .ref (xsA X 3))] := hl
  obtain ⟨Qq, hQq⟩ : ∃ Qq, Qq = xsQi X out.1 (wK X kIsKept kIsStale hiLatest hiSize scBytes scTold scLength out.2.1 out.2.2.1 out.2.2.2 piSegmentsNow enKind enX enY enLower enFromX enFromY enToX enToY tiTouching tiLyingAlong tiMeetingPairs tiAlongPairs tiSize evX evY evLower evBundle evCrossingOf evEventOf evLeftEvent evRightEvent evSize evCrossings evSegmentsNow grDegree grEdges grFar grQueue grQueued huX huY huSize huBestX huBestY S Rw) := ⟨_, rfl⟩
  rw [← hQq]
  unfold fX6_readSigned at hf
  refine lv_aload_n hx hb dX6_readSigned_0 rfl (lv_at hl 0 rfl) ?_
  replace hf := xsBd_use hf
  obtain ⟨o1, h2, hf⟩ := hf
  refine xs_callv hS (xs_runV (As := []) C (mX6_skipBlanks l  h2) w_778 w_780 w_15 w_108 w_781 hd_X6_skipBlanks ⟨rfl, rfl, Nat.le_of_ble_eq_true rfl, Nat.le_of_ble_eq_true rfl, Nat.zero_le _, Nat.zero_le _⟩ hP hD hS lk_X6 rfl hl.1 rfl (Nat.le_of_ble_eq_true rfl) dX6_readSigned_1) (fun H locs hP hD hS => ?_)
  refine lv_aload_n hx hb dX6_readSigned_4 rfl (lv_at hl 0 rfl) ?_
  refine xg_X6_33 C hP dX6_readSigned_5 ?_
  refine lv_istore_n (lv' := [(1, .int o1), (0, .ref (xsA X 3))]) hx hb dX6_readSigned_8 rfl hl (by decide) rfl (fun ls hl => ?_)
  refine lv_aload_n hx hb dX6_readSigned_9 rfl (lv_at hl 1 rfl) ?_
  refine xg_X6_33 C hP dX6_readSigned_10 ?_
  refine lv_aload_n hx hb dX6_readSigned_13 rfl (lv_at hl 1 rfl) ?_
  refine xg_X6_26 C hP dX6_readSigned_14 ?_
  have K20 : ∀ (y3 : Int32) (hf : fX6_readSigned_J39 scBytes scLength scFault scNumber o1 y3 = some out) (H : Heap) (locs : List Loc) (ls : Array Slot), va_P (xsD X) vwCl (wK X kIsKept kIsStale hiLatest hiSize scBytes scTold scLength scFault o1 scNumber piSegmentsNow enKind enX enY enLower enFromX enFromY enToX enToY tiTouching tiLyingAlong tiMeetingPairs tiAlongPairs tiSize evX evY evLower evBundle evCrossingOf evEventOf evLeftEvent evRightEvent evSize evCrossings evSegmentsNow grDegree grEdges grFar grQueue grQueued huX huY huSize huBestX huBestY S Rw) H → va_D (xsF X) (wK X kIsKept kIsStale hiLatest hiSize scBytes scTold scLength scFault o1 scNumber piSegmentsNow enKind enX enY enLower enFromX enFromY enToX enToY tiTouching tiLyingAlong tiMeetingPairs tiAlongPairs tiSize evX evY evLower evBundle evCrossingOf evEventOf evLeftEvent evRightEvent evSize evCrossings evSegmentsNow grDegree grEdges grFar grQueue grQueued huX huY huSize huBestX huBestY S Rw) → va_S (xsF X) s.heap H locs → lv_has ls 3 [(0, .ref (xsA X 3)), (1, .int o1)] → W p l e { frames := 2, cells := 0, slots := 0, locals := 44 } s m ([.ref (xsA X 3)] : List Value).toArray below meth c H locs 0 0 (MQ below Qq ([.ref (xsA X 3)] : List Value).toArray s 0 0 (xsF X)) (F0 m 39 ls [.int y3]) := by
    intro y3 hf H locs ls hP hD hS hl
    unfold fX6_readSigned_J39 at hf
    refine lv_istore_n (lv' := [(2, .int y3), (0, .ref (xsA X 3)), (1, .int o1)]) hx hb dX6_readSigned_39 rfl hl (by decide) rfl (fun ls hl => ?_)
    refine lv_iload_n hx hb dX6_readSigned_40 rfl (lv_at hl 0 rfl) ?_
    have K15 : ∀ (y4 : Int32) (hf : fX6_readSigned_J54 scBytes scLength scFault scNumber o1 y3 y4 = some out) (H : Heap) (locs : List Loc) (ls : Array Slot), va_P (xsD X) vwCl (wK X kIsKept kIsStale hiLatest hiSize scBytes scTold scLength scFault y4 scNumber piSegmentsNow enKind enX enY enLower enFromX enFromY enToX enToY tiTouching tiLyingAlong tiMeetingPairs tiAlongPairs tiSize evX evY evLower evBundle evCrossingOf evEventOf evLeftEvent evRightEvent evSize evCrossings evSegmentsNow grDegree grEdges grFar grQueue grQueued huX huY huSize huBestX huBestY S Rw) H → va_D (xsF X) (wK X kIsKept kIsStale hiLatest hiSize scBytes scTold scLength scFault y4 scNumber piSegmentsNow enKind enX enY enLower enFromX enFromY enToX enToY tiTouching tiLyingAlong tiMeetingPairs tiAlongPairs tiSize evX evY evLower evBundle evCrossingOf evEventOf evLeftEvent evRightEvent evSize evCrossings evSegmentsNow grDegree grEdges grFar grQueue grQueued huX huY huSize huBestX huBestY S Rw) → va_S (xsF X) s.heap H locs → lv_has ls 3 [(0, .ref (xsA X 3)), (1, .int o1), (2, .int y3)] → W p l e { frames := 2, cells := 0, slots := 0, locals := 44 } s m ([.ref (xsA X 3)] : List Value).toArray below meth c H locs 0 0 (MQ below Qq ([.ref (xsA X 3)] : List Value).toArray s 0 0 (xsF X)) (F0 m 54 ls []) := by
      intro y4 hf H locs ls hP hD hS hl
      unfold fX6_readSigned_J54 at hf
      refine lv_aload_n hx hb dX6_readSigned_54 rfl (lv_at hl 0 rfl) ?_
      refine lv_iload_n hx hb dX6_readSigned_55 rfl (lv_at hl 1 rfl) ?_
      replace hf := xsBd_use hf
      obtain ⟨o5, h6, hf⟩ := hf
      refine xs_calli hS (xs_runV (As := [.int o1]) C (mX6_readDigits l  h6) w_847 w_849 w_20 w_108 w_850 hd_X6_readDigits ⟨rfl, rfl, Nat.le_of_ble_eq_true rfl, Nat.le_of_ble_eq_true rfl, Nat.zero_le _, Nat.zero_le _⟩ hP hD hS lk_X6 rfl hl.1 rfl (Nat.le_of_ble_eq_true rfl) dX6_readSigned_56) (fun H locs hP hD hS => ?_)
      refine lv_if_ne (tgt := 64) hx hb dX6_readSigned_59 (by decide) (fun c12 => ?_) (fun c12 => ?_)
      · replace hf := xsBr_f c12 hf
        refine lv_aload_n hx hb dX6_readSigned_64 rfl (lv_at hl 0 rfl) ?_
        refine lv_iload_n hx hb dX6_readSigned_65 rfl (lv_at hl 2 rfl) ?_
        have K10 : ∀ (y7 : Int32) (hf : fX6_readSigned_J81 o5 y7 = some out) (H : Heap) (locs : List Loc) (ls : Array Slot), va_P (xsD X) vwCl (wK X kIsKept kIsStale hiLatest hiSize scBytes scTold scLength o5.2.1 o5.2.2.1 o5.2.2.2 piSegmentsNow enKind enX enY enLower enFromX enFromY enToX enToY tiTouching tiLyingAlong tiMeetingPairs tiAlongPairs tiSize evX evY evLower evBundle evCrossingOf evEventOf evLeftEvent evRightEvent evSize evCrossings evSegmentsNow grDegree grEdges grFar grQueue grQueued huX huY huSize huBestX huBestY S Rw) H → va_D (xsF X) (wK X kIsKept kIsStale hiLatest hiSize scBytes scTold scLength o5.2.1 o5.2.2.1 o5.2.2.2 piSegmentsNow enKind enX enY enLower enFromX enFromY enToX enToY tiTouching tiLyingAlong tiMeetingPairs tiAlongPairs tiSize evX evY evLower evBundle evCrossingOf evEventOf evLeftEvent evRightEvent evSize evCrossings evSegmentsNow grDegree grEdges grFar grQueue grQueued huX huY huSize huBestX huBestY S Rw) → va_S (xsF X) s.heap H locs → lv_has ls 3 [] → W p l e { frames := 2, cells := 0, slots := 0, locals := 44 } s m ([.ref (xsA X 3)] : List Value).toArray below meth c H locs 0 0 (MQ below Qq ([.ref (xsA X 3)] : List Value).toArray s 0 0 (xsF X)) (F0 m 81 ls [.int y7, .ref (xsA X 3)]) := by
          intro y7 hf H locs ls hP hD hS hl
          unfold fX6_readSigned_J81 at hf
          refine xp_X6_36 C hP hD hS dX6_readSigned_81 (fun H locs hP hD hS => ?_)
          refine lv_iconst (v := (1 : Int32)) hx hb dX6_readSigned_84 (by decide) ?_
          have ho := Option.some.inj hf
          subst ho
          rw [hQq]
          exact xs_zret C hr hlk xsB_1 hP hD hS dX6_readSigned_85
        replace hf := xsBd_use hf
        obtain ⟨v8, hf, hk9⟩ := hf
        refine lv_if_eq (tgt := 77) hx hb dX6_readSigned_66 (by decide) (fun c11 => ?_) (fun c11 => ?_)
        · replace hf := xsBr_t c11 hf
          refine lv_aload_n hx hb dX6_readSigned_77 rfl (lv_at hl 0 rfl) ?_
          refine xg_X6_36 C hP dX6_readSigned_78 ?_
          have ev := Option.some.inj hf
          subst ev
          exact K10 o5.2.2.2 hk9 H locs ls hP hD hS (lv_sub hl [] rfl)
        · replace hf := xsBr_f c11 hf
          refine lv_aload_n hx hb dX6_readSigned_69 rfl (lv_at hl 0 rfl) ?_
          refine xg_X6_36 C hP dX6_readSigned_70 ?_
          refine lv_ineg hx hb dX6_readSigned_73 ?_
          refine lv_goto (tgt := 81) hx hb dX6_readSigned_74 (by decide) ?_
          have ev := Option.some.inj hf
          subst ev
          exact K10 (-o5.2.2.2) hk9 H locs ls hP hD hS (lv_sub hl [] rfl)
      · replace hf := xsBr_t c12 hf
        refine lv_iconst (v := (0 : Int32)) hx hb dX6_readSigned_62 (by decide) ?_
        have ho := Option.some.inj hf
        subst ho
        rw [hQq]
        exact xs_zret C hr hlk xsB_0 hP hD hS dX6_readSigned_63
    replace hf := xsBd_use hf
    obtain ⟨v13, hf, hk14⟩ := hf
    refine lv_if_eq (tgt := 54) hx hb dX6_readSigned_41 (by decide) (fun c17 => ?_) (fun c17 => ?_)
    · replace hf := xsBr_t c17 hf
      have ev := Option.some.inj hf
      subst ev
      exact K15 o1 hk14 H locs ls hP hD hS (lv_sub hl [1, 2, 0] rfl)
    · replace hf := xsBr_f c17 hf
      refine lv_aload_n hx hb dX6_readSigned_44 rfl (lv_at hl 1 rfl) ?_
      refine lv_dup hx hb dX6_readSigned_45 rfl ?_
      refine xg_X6_33 C hP dX6_readSigned_46 ?_
      refine lv_iconst (v := (1 : Int32)) hx hb dX6_readSigned_49 (by decide) ?_
      refine lv_iadd hx hb dX6_readSigned_50 ?_
      refine lv_topi (fun x16 ex16 => ?_)
      replace hf := xsLt_use ex16 hf
      refine xp_X6_33 C hP hD hS dX6_readSigned_51 (fun H locs hP hD hS => ?_)
      have ev := Option.some.inj hf
      subst ev
      exact K15 x16 hk14 H locs ls hP hD hS (lv_sub hl [1, 2, 0] rfl)
  replace hf := xsBd_use hf
  obtain ⟨v18, hf, hk19⟩ := hf
  refine lv_icmp_ge (tgt := 38) hx hb dX6_readSigned_17 (by decide) (fun c23 => ?_) (fun c23 => ?_)
  · replace hf := xsBr_t c23 hf
    refine lv_iconst (v := (0 : Int32)) hx hb dX6_readSigned_38 (by decide) ?_
    have ev := Option.some.inj hf
    subst ev
    exact K20 (0 : Int32) hk19 H locs ls hP hD hS (lv_sub hl [1, 0] rfl)
  · replace hf := xsBr_f c23 hf
    refine lv_aload_n hx hb dX6_readSigned_20 rfl (lv_at hl 1 rfl) ?_
    refine xg_X6_9 C hP dX6_readSigned_21 ?_
    refine lv_aload_n hx hb dX6_readSigned_24 rfl (lv_at hl 1 rfl) ?_
    refine xg_X6_33 C hP dX6_readSigned_25 ?_
    replace hf := xsCk_use hf
    obtain ⟨h21, hf⟩ := hf
    refine xl_scBytes C hP h21 dX6_readSigned_28 ?_
    refine lv_bipush (v := (45 : Int32)) hx hb dX6_readSigned_29 (by decide) ?_
    refine lv_icmp_ne (tgt := 38) hx hb dX6_readSigned_31 (by decide) (fun c22 => ?_) (fun c22 => ?_)
    · replace hf := xsBr_f c22 hf
      refine lv_iconst (v := (0 : Int32)) hx hb dX6_readSigned_38 (by decide) ?_
      have ev := Option.some.inj hf
      subst ev
      exact K20 (0 : Int32) hk19 H locs ls hP hD hS (lv_sub hl [1, 0] rfl)
    · replace hf := xsBr_t c22 hf
      refine lv_iconst (v := (1 : Int32)) hx hb dX6_readSigned_34 (by decide) ?_
      refine lv_goto (tgt := 39) hx hb dX6_readSigned_35 (by decide) ?_
      have ev := Option.some.inj hf
      subst ev
      exact K20 (1 : Int32) hk19 H locs ls hP hD hS (lv_sub hl [1, 0] rfl)
set_option maxRecDepth 100000 in
set_option maxHeartbeats 8000000 in
theorem mJ13_signum_95d88 (l : Launch) {X : xsX} {w : va_W} {a0 : Int64} {out : Int32} (hf : fJ13_signum_95d88 a0 = some out) : Met l yJ13_signum_95d88 (xsWs yJ13_signum_95d88 cJ13_signum_95d88 2 (some .int)) { frames := 0, cells := 0, slots := 0, locals := 0 } (xsP X (w) [.long a0]) (xsQi X out (w)) 0 0 (xsF X) := by
  refine xs_meth RJ13 (by decide) rfl (Nat.le_of_ble_eq_true rfl) ?_
  intro p e s m below meth c ls H locs C hP hD hS hr hlk hl
  have hx := C.1
  have hb := C.2.1
  have hl : lv_has ls 2 [(0, .long a0)] := hl
  obtain ⟨Qq, hQq⟩ : ∃ Qq, Qq = xsQi X out (w) := ⟨_, rfl⟩
  rw [← hQq]
  unfold fJ13_signum_95d88 at hf
  refine lv_lload_n hx hb dJ13_signum_95d88_0 rfl (lv_at hl 0 rfl) ?_
  refine lv_bipush (v := (63 : Int32)) hx hb dJ13_signum_95d88_1 (by decide) ?_
  refine lv_lshr hx hb dJ13_signum_95d88_3 rfl ?_
  refine lv_lload_n hx hb dJ13_signum_95d88_4 rfl (lv_at hl 0 rfl) ?_
  refine lv_lneg hx hb dJ13_signum_95d88_5 ?_
  refine lv_bipush (v := (63 : Int32)) hx hb dJ13_signum_95d88_6 (by decide) ?_
  refine lv_lushr hx hb dJ13_signum_95d88_8 rfl ?_
  refine lv_lor hx hb dJ13_signum_95d88_9 ?_
  refine lv_l2i hx hb dJ13_signum_95d88_10 rfl ?_
  have ho := Option.some.inj hf
  subst ho
  rw [hQq]
  exact xs_iret C hr hlk hP hD hS dJ13_signum_95d88_11
set_option maxRecDepth 100000 in
set_option maxHeartbeats 8000000 in
theorem mX8_sideOf (l : Launch) {X : xsX} {kIsKept kIsStale hiLatest hiSize scLength scFault scAt scNumber piSegmentsNow enKind enFromX enFromY enToX enToY tiMeetingPairs tiAlongPairs tiSize evSize evCrossings evSegmentsNow grEdges grQueued huSize huBestX huBestY : Int32} {scBytes scTold tiTouching tiLyingAlong evBundle evCrossingOf evEventOf evLeftEvent evRightEvent grDegree grFar grQueue huX huY : Nat → Int32} {enX enY enLower : Int64} {evX evY evLower : Nat → Int64} {S : Nat → xsV} {Rw : va_W} {js : Nat} (hjs : js < 12) {sLx sLy sRx sRy sTi : Nat → Int32} {sSz : Int32} (hs_s : S js = (sLx, sLy, sRx, sRy, sTi, sSz)) {a2 : Int32} {a3 : Int32} {out : Int32} (hf : fX8_sideOf evX evY evLower sLx sLy sRx sRy a2 a3 = some out) : Met l yX8_sideOf (xsWs yX8_sideOf cX8_sideOf 4 (some .int)) { frames := 2, cells := 0, slots := 0, locals := 44 } (xsP X (wK X kIsKept kIsStale hiLatest hiSize scBytes scTold scLength scFault scAt scNumber piSegmentsNow enKind enX enY enLower enFromX enFromY enToX enToY tiTouching tiLyingAlong tiMeetingPairs tiAlongPairs tiSize evX evY evLower evBundle evCrossingOf evEventOf evLeftEvent evRightEvent evSize evCrossings evSegmentsNow grDegree grEdges grFar grQueue grQueued huX huY huSize huBestX huBestY S Rw) [.ref (xsA X (27 + 6 * js)), .ref (xsA X 11), .int a2, .int a3]) (xsQi X out (wK X kIsKept kIsStale hiLatest hiSize scBytes scTold scLength scFault scAt scNumber piSegmentsNow enKind enX enY enLower enFromX enFromY enToX enToY tiTouching tiLyingAlong tiMeetingPairs tiAlongPairs tiSize evX evY evLower evBundle evCrossingOf evEventOf evLeftEvent evRightEvent evSize evCrossings evSegmentsNow grDegree grEdges grFar grQueue grQueued huX huY huSize huBestX huBestY S Rw)) 0 0 (xsF X) := by
  refine xs_meth RX8 (by decide) rfl (Nat.le_of_ble_eq_true rfl) ?_
  intro p e s m below meth c ls H locs C hP hD hS hr hlk hl
  have hx := C.1
  have hb := C.2.1
  have hl : lv_has ls 4 [(0, .ref (xsA X (27 + 6 * js))), (1, .ref (xsA X 11)), (2, .int a2), (3, .int a3)] := hl
  obtain ⟨Qq, hQq⟩ : ∃ Qq, Qq = xsQi X out (wK X kIsKept kIsStale hiLatest hiSize scBytes scTold scLength scFault scAt scNumber piSegmentsNow enKind enX enY enLower enFromX enFromY enToX enToY tiTouching tiLyingAlong tiMeetingPairs tiAlongPairs tiSize evX evY evLower evBundle evCrossingOf evEventOf evLeftEvent evRightEvent evSize evCrossings evSegmentsNow grDegree grEdges grFar grQueue grQueued huX huY huSize huBestX huBestY S Rw) := ⟨_, rfl⟩
  rw [← hQq]
  unfold fX8_sideOf at hf
  refine lv_aload_n hx hb dX8_sideOf_0 rfl (lv_at hl 0 rfl) ?_
  refine lv_iload_n hx hb dX8_sideOf_1 rfl (lv_at hl 3 rfl) ?_
  replace hf := xsBd_use hf
  obtain ⟨o1, h2, hf⟩ := hf
  refine xs_calll hS (xs_runV (As := [.int a3]) C (mX7_width l (js := js) hjs hs_s h2) w_644 w_571 w_572 w_106 w_573 hd_X7_width ⟨rfl, rfl, Nat.le_of_ble_eq_true rfl, Nat.le_of_ble_eq_true rfl, Nat.zero_le _, Nat.zero_le _⟩ hP hD hS (xs_lkS hjs) rfl hl.1 rfl (Nat.le_of_ble_eq_true rfl) dX8_sideOf_2) (fun H locs hP hD hS => ?_)
  refine lv_lconst (v := (0 : Int64)) hx hb dX8_sideOf_5 (by decide) ?_
  refine xs_lcmp_ne (tgt := 14) C dX8_sideOf_6 dX8_sideOf_7 (by decide) (fun c7 => ?_) (fun c7 => ?_)
  · replace hf := xsBr_f c7 hf
    refine lv_aload_n hx hb dX8_sideOf_14 rfl (lv_at hl 1 rfl) ?_
    refine lv_aload_n hx hb dX8_sideOf_15 rfl (lv_at hl 0 rfl) ?_
    refine lv_iload_n hx hb dX8_sideOf_16 rfl (lv_at hl 3 rfl) ?_
    refine lv_iload_n hx hb dX8_sideOf_17 rfl (lv_at hl 2 rfl) ?_
    replace hf := xsBd_use hf
    obtain ⟨o3, h4, hf⟩ := hf
    refine xs_calll hS (xs_runV (As := [.ref (xsA X (27 + 6 * js)), .int a3, .int a2]) C (mX1_heightOf l (js := js) hjs hs_s h4) w_645 w_595 w_596 w_112 w_597 hd_X1_heightOf ⟨rfl, rfl, Nat.le_of_ble_eq_true rfl, Nat.le_of_ble_eq_true rfl, Nat.zero_le _, Nat.zero_le _⟩ hP hD hS lk_X1 rfl hl.1 rfl (Nat.le_of_ble_eq_true rfl) dX8_sideOf_18) (fun H locs hP hD hS => ?_)
    replace hf := xsBd_use hf
    obtain ⟨o5, h6, hf⟩ := hf
    refine xs_calli hS (xs_runS (As := [.long o3]) C (mJ13_signum_95d88 l  h6) w_646 w_647 w_127 w_648 hd_J13_signum_95d88 ⟨rfl, rfl, Nat.le_of_ble_eq_true rfl, Nat.le_of_ble_eq_true rfl, Nat.zero_le _, Nat.zero_le _⟩ hP hD hS hl.1 rfl (Nat.le_of_ble_eq_true rfl) dX8_sideOf_21) (fun H locs hP hD hS => ?_)
    have ho := Option.some.inj hf
    subst ho
    rw [hQq]
    exact xs_iret C hr hlk hP hD hS dX8_sideOf_24
  · replace hf := xsBr_t c7 hf
    refine lv_iconst (v := (0 : Int32)) hx hb dX8_sideOf_10 (by decide) ?_
    refine lv_goto (tgt := 24) hx hb dX8_sideOf_11 (by decide) ?_
    have ho := Option.some.inj hf
    subst ho
    rw [hQq]
    exact xs_iret C hr hlk hP hD hS dX8_sideOf_24
set_option maxRecDepth 100000 in
set_option maxHeartbeats 8000000 in
theorem mX8_heightAt (l : Launch) {X : xsX} {kIsKept kIsStale hiLatest hiSize scLength scFault scAt scNumber piSegmentsNow enKind enFromX enFromY enToX enToY tiMeetingPairs tiAlongPairs tiSize evSize evCrossings evSegmentsNow grEdges grQueued huSize huBestX huBestY : Int32} {scBytes scTold tiTouching tiLyingAlong evBundle evCrossingOf evEventOf evLeftEvent evRightEvent grDegree grFar grQueue huX huY : Nat → Int32} {enX enY enLower : Int64} {evX evY evLower : Nat → Int64} {S : Nat → xsV} {Rw : va_W} {js : Nat} (hjs : js < 12) {sLx sLy sRx sRy sTi : Nat → Int32} {sSz : Int32} (hs_s : S js = (sLx, sLy, sRx, sRy, sTi, sSz)) {a2 : Int32} {a3 : Int32} {out : Int64} (hf : fX8_heightAt evX evLower sLx sLy sRx sRy a2 a3 = some out) : Met l yX8_heightAt (xsWs yX8_heightAt cX8_heightAt 6 (some .long)) { frames := 1, cells := 0, slots := 0, locals := 21 } (xsP X (wK X kIsKept kIsStale hiLatest hiSize scBytes scTold scLength scFault scAt scNumber piSegmentsNow enKind enX enY enLower enFromX enFromY enToX enToY tiTouching tiLyingAlong tiMeetingPairs tiAlongPairs tiSize evX evY evLower evBundle evCrossingOf evEventOf evLeftEvent evRightEvent evSize evCrossings evSegmentsNow grDegree grEdges grFar grQueue grQueued huX huY huSize huBestX huBestY S Rw) [.ref (xsA X (27 + 6 * js)), .ref (xsA X 11), .int a2, .int a3]) (xsQl X out (wK X kIsKept kIsStale hiLatest hiSize scBytes scTold scLength scFault scAt scNumber piSegmentsNow enKind enX enY enLower enFromX enFromY enToX enToY tiTouching tiLyingAlong tiMeetingPairs tiAlongPairs tiSize evX evY evLower evBundle evCrossingOf evEventOf evLeftEvent evRightEvent evSize evCrossings evSegmentsNow grDegree grEdges grFar grQueue grQueued huX huY huSize huBestX huBestY S Rw)) 0 0 (xsF X) := by
  refine xs_meth RX8 (by decide) rfl (Nat.le_of_ble_eq_true rfl) ?_
  intro p e s m below meth c ls H locs C hP hD hS hr hlk hl
  have hx := C.1
  have hb := C.2.1
  have hl : lv_has ls 6 [(0, .ref (xsA X (27 + 6 * js))), (1, .ref (xsA X 11)), (2, .int a2), (3, .int a3)] := hl
  obtain ⟨Qq, hQq⟩ : ∃ Qq, Qq = xsQl X out (wK X kIsKept kIsStale hiLatest hiSize scBytes scTold scLength scFault scAt scNumber piSegmentsNow enKind enX enY enLower enFromX enFromY enToX enToY tiTouching tiLyingAlong tiMeetingPairs tiAlongPairs tiSize evX evY evLower evBundle evCrossingOf evEventOf evLeftEvent evRightEvent evSize evCrossings evSegmentsNow grDegree grEdges grFar grQueue grQueued huX huY huSize huBestX huBestY S Rw) := ⟨_, rfl⟩
  rw [← hQq]
  unfold fX8_heightAt at hf
  refine lv_aload_n hx hb dX8_heightAt_0 rfl (lv_at hl 0 rfl) ?_
  refine xg_X8_56 (j := js) hjs C hP dX8_heightAt_1 ?_
  refine lv_iload_n hx hb dX8_heightAt_4 rfl (lv_at hl 3 rfl) ?_
  replace hf := xsCk_use hf
  obtain ⟨h1, hf⟩ := hf
  refine xl_s1 (j := js) hjs hs_s C hP h1 dX8_heightAt_5 ?_
  refine lv_i2l hx hb dX8_heightAt_6 rfl ?_
  refine lv_aload_n hx hb dX8_heightAt_7 rfl (lv_at hl 0 rfl) ?_
  refine lv_iload_n hx hb dX8_heightAt_8 rfl (lv_at hl 3 rfl) ?_
  replace hf := xsBd_use hf
  obtain ⟨o2, h3, hf⟩ := hf
  refine xs_calll hS (xs_runV (As := [.int a3]) C (mX7_width l (js := js) hjs hs_s h3) w_644 w_571 w_572 w_106 w_573 hd_X7_width ⟨rfl, rfl, Nat.le_of_ble_eq_true rfl, Nat.le_of_ble_eq_true rfl, Nat.zero_le _, Nat.zero_le _⟩ hP hD hS (xs_lkS hjs) rfl hl.1 rfl (Nat.le_of_ble_eq_true rfl) dX8_heightAt_9) (fun H locs hP hD hS => ?_)
  refine lv_lmul hx hb dX8_heightAt_12 ?_
  refine lv_aload_n hx hb dX8_heightAt_13 rfl (lv_at hl 1 rfl) ?_
  refine xg_X8_60 C hP dX8_heightAt_14 ?_
  refine lv_iload_n hx hb dX8_heightAt_17 rfl (lv_at hl 2 rfl) ?_
  replace hf := xsCk_use hf
  obtain ⟨h4, hf⟩ := hf
  refine xl_evLower C hP h4 dX8_heightAt_18 ?_
  refine lv_lmul hx hb dX8_heightAt_19 ?_
  refine lv_topl (fun x5 ex5 => ?_)
  replace hf := xsLt_use ex5 hf
  refine lv_lstore (lv' := [(4, .long x5), (0, .ref (xsA X (27 + 6 * js))), (1, .ref (xsA X 11)), (2, .int a2), (3, .int a3)]) hx hb dX8_heightAt_20 hl (by decide) rfl (fun ls hl => ?_)
  refine lv_lload hx hb dX8_heightAt_22 (lv_at hl 0 rfl) ?_
  refine lv_aload_n hx hb dX8_heightAt_24 rfl (lv_at hl 2 rfl) ?_
  refine xg_X8_64 C hP dX8_heightAt_25 ?_
  refine lv_iload_n hx hb dX8_heightAt_28 rfl (lv_at hl 3 rfl) ?_
  replace hf := xsCk_use hf
  obtain ⟨h6, hf⟩ := hf
  refine xl_evX C hP h6 dX8_heightAt_29 ?_
  refine lv_aload_n hx hb dX8_heightAt_30 rfl (lv_at hl 1 rfl) ?_
  refine xg_X8_67 (j := js) hjs C hP dX8_heightAt_31 ?_
  refine lv_iload_n hx hb dX8_heightAt_34 rfl (lv_at hl 4 rfl) ?_
  replace hf := xsCk_use hf
  obtain ⟨h7, hf⟩ := hf
  refine xl_s0 (j := js) hjs hs_s C hP h7 dX8_heightAt_35 ?_
  refine lv_i2l hx hb dX8_heightAt_36 rfl ?_
  refine lv_aload_n hx hb dX8_heightAt_37 rfl (lv_at hl 2 rfl) ?_
  refine xg_X8_60 C hP dX8_heightAt_38 ?_
  refine lv_iload_n hx hb dX8_heightAt_41 rfl (lv_at hl 3 rfl) ?_
  replace hf := xsCk_use hf
  obtain ⟨h8, hf⟩ := hf
  refine xl_evLower C hP h8 dX8_heightAt_42 ?_
  refine lv_lmul hx hb dX8_heightAt_43 ?_
  refine lv_lsub hx hb dX8_heightAt_44 ?_
  refine lv_aload_n hx hb dX8_heightAt_45 rfl (lv_at hl 1 rfl) ?_
  refine lv_iload_n hx hb dX8_heightAt_46 rfl (lv_at hl 4 rfl) ?_
  replace hf := xsBd_use hf
  obtain ⟨o9, h10, hf⟩ := hf
  refine xs_calll hS (xs_runV (As := [.int a3]) C (mX7_rise l (js := js) hjs hs_s h10) w_652 w_575 w_576 w_106 w_577 hd_X7_rise ⟨rfl, rfl, Nat.le_of_ble_eq_true rfl, Nat.le_of_ble_eq_true rfl, Nat.zero_le _, Nat.zero_le _⟩ hP hD hS (xs_lkS hjs) rfl hl.1 rfl (Nat.le_of_ble_eq_true rfl) dX8_heightAt_47) (fun H locs hP hD hS => ?_)
  refine lv_lmul hx hb dX8_heightAt_50 ?_
  refine lv_ladd hx hb dX8_heightAt_51 ?_
  have ho := Option.some.inj hf
  subst ho
  rw [hQq]
  exact xs_lret C hr hlk hP hD hS dX8_heightAt_52
set_option maxRecDepth 100000 in
set_option maxHeartbeats 8000000 in
theorem mX8_isAhead (l : Launch) {X : xsX} {kIsKept kIsStale hiLatest hiSize scLength scFault scAt scNumber piSegmentsNow enKind enFromX enFromY enToX enToY tiMeetingPairs tiAlongPairs tiSize evSize evCrossings evSegmentsNow grEdges grQueued huSize huBestX huBestY : Int32} {scBytes scTold tiTouching tiLyingAlong evBundle evCrossingOf evEventOf evLeftEvent evRightEvent grDegree grFar grQueue huX huY : Nat → Int32} {enX enY enLower : Int64} {evX evY evLower : Nat → Int64} {S : Nat → xsV} {Rw : va_W} {js : Nat} (hjs : js < 12) {sLx sLy sRx sRy sTi : Nat → Int32} {sSz : Int32} (hs_s : S js = (sLx, sLy, sRx, sRy, sTi, sSz)) {a2 : Int32} {a3 : Int32} {a4 : Int32} {out : Int32} (hf : fX8_isAhead evX evY evLower sLx sLy sRx sRy a2 a3 a4 = some out) : Met l yX8_isAhead (xsWs yX8_isAhead cX8_isAhead 11 (some .boolean)) { frames := 3, cells := 0, slots := 0, locals := 67 } (xsP X (wK X kIsKept kIsStale hiLatest hiSize scBytes scTold scLength scFault scAt scNumber piSegmentsNow enKind enX enY enLower enFromX enFromY enToX enToY tiTouching tiLyingAlong tiMeetingPairs tiAlongPairs tiSize evX evY evLower evBundle evCrossingOf evEventOf evLeftEvent evRightEvent evSize evCrossings evSegmentsNow grDegree grEdges grFar grQueue grQueued huX huY huSize huBestX huBestY S Rw) [.ref (xsA X (27 + 6 * js)), .ref (xsA X 11), .int a2, .int a3, .int a4]) (xsQi X out (wK X kIsKept kIsStale hiLatest hiSize scBytes scTold scLength scFault scAt scNumber piSegmentsNow enKind enX enY enLower enFromX enFromY enToX enToY tiTouching tiLyingAlong tiMeetingPairs tiAlongPairs tiSize evX evY evLower evBundle evCrossingOf evEventOf evLeftEvent evRightEvent evSize evCrossings evSegmentsNow grDegree grEdges grFar grQueue grQueued huX huY huSize huBestX huBestY S Rw)) 0 0 (xsF X) := by
  refine xs_meth RX8 (by decide) rfl (Nat.le_of_ble_eq_true rfl) ?_
  intro p e s m below meth c ls H locs C hP hD hS hr hlk hl
  have hx := C.1
  have hb := C.2.1
  have hl : lv_has ls 11 [(0, .ref (xsA X (27 + 6 * js))), (1, .ref (xsA X 11)), (2, .int a2), (3, .int a3), (4, .int a4)] := hl
  obtain ⟨Qq, hQq⟩ : ∃ Qq, Qq = xsQi X out (wK X kIsKept kIsStale hiLatest hiSize scBytes scTold scLength scFault scAt scNumber piSegmentsNow enKind enX enY enLower enFromX enFromY enToX enToY tiTouching tiLyingAlong tiMeetingPairs tiAlongPairs tiSize evX evY evLower evBundle evCrossingOf evEventOf evLeftEvent evRightEvent evSize evCrossings evSegmentsNow grDegree grEdges grFar grQueue grQueued huX huY huSize huBestX huBestY S Rw) := ⟨_, rfl⟩
  rw [← hQq]
  unfold fX8_isAhead at hf
  refine lv_aload_n hx hb dX8_isAhead_0 rfl (lv_at hl 0 rfl) ?_
  refine lv_aload_n hx hb dX8_isAhead_1 rfl (lv_at hl 1 rfl) ?_
  refine lv_iload_n hx hb dX8_isAhead_2 rfl (lv_at hl 2 rfl) ?_
  refine lv_iload_n hx hb dX8_isAhead_3 rfl (lv_at hl 3 rfl) ?_
  replace hf := xsBd_use hf
  obtain ⟨o1, h2, hf⟩ := hf
  refine xs_calli hS (xs_runS (As := [.ref (xsA X (27 + 6 * js)), .ref (xsA X 11), .int a2, .int a3]) C (mX8_sideOf l (js := js) hjs hs_s h2) w_641 w_642 w_130 w_643 hd_X8_sideOf ⟨rfl, rfl, Nat.le_of_ble_eq_true rfl, Nat.le_of_ble_eq_true rfl, Nat.zero_le _, Nat.zero_le _⟩ hP hD hS hl.1 rfl (Nat.le_of_ble_eq_true rfl) dX8_isAhead_4) (fun H locs hP hD hS => ?_)
  refine lv_istore (lv' := [(5, .int o1), (0, .ref (xsA X (27 + 6 * js))), (1, .ref (xsA X 11)), (2, .int a2), (3, .int a3), (4, .int a4)]) hx hb dX8_isAhead_7 hl (by decide) rfl (fun ls hl => ?_)
  refine lv_aload_n hx hb dX8_isAhead_9 rfl (lv_at hl 1 rfl) ?_
  refine lv_aload_n hx hb dX8_isAhead_10 rfl (lv_at hl 2 rfl) ?_
  refine lv_iload_n hx hb dX8_isAhead_11 rfl (lv_at hl 3 rfl) ?_
  refine lv_iload hx hb dX8_isAhead_12 (lv_at hl 5 rfl) ?_
  replace hf := xsBd_use hf
  obtain ⟨o3, h4, hf⟩ := hf
  refine xs_calli hS (xs_runS (As := [.ref (xsA X (27 + 6 * js)), .ref (xsA X 11), .int a2, .int a4]) C (mX8_sideOf l (js := js) hjs hs_s h4) w_641 w_642 w_130 w_643 hd_X8_sideOf ⟨rfl, rfl, Nat.le_of_ble_eq_true rfl, Nat.le_of_ble_eq_true rfl, Nat.zero_le _, Nat.zero_le _⟩ hP hD hS hl.1 rfl (Nat.le_of_ble_eq_true rfl) dX8_isAhead_14) (fun H locs hP hD hS => ?_)
  refine lv_istore (lv' := [(6, .int o3), (5, .int o1), (0, .ref (xsA X (27 + 6 * js))), (1, .ref (xsA X 11)), (2, .int a2), (3, .int a3), (4, .int a4)]) hx hb dX8_isAhead_17 hl (by decide) rfl (fun ls hl => ?_)
  refine lv_iload hx hb dX8_isAhead_19 (lv_at hl 1 rfl) ?_
  refine lv_iload hx hb dX8_isAhead_21 (lv_at hl 0 rfl) ?_
  refine lv_icmp_eq (tgt := 39) hx hb dX8_isAhead_23 (by decide) (fun c34 => ?_) (fun c34 => ?_)
  · replace hf := xsBr_t c34 hf
    refine lv_iload hx hb dX8_isAhead_39 (lv_at hl 1 rfl) ?_
    have K19 : ∀ (hf : fX8_isAhead_J98 sLx sLy sRx sRy a3 a4 o1 = some out) (H : Heap) (locs : List Loc) (ls : Array Slot), va_P (xsD X) vwCl (wK X kIsKept kIsStale hiLatest hiSize scBytes scTold scLength scFault scAt scNumber piSegmentsNow enKind enX enY enLower enFromX enFromY enToX enToY tiTouching tiLyingAlong tiMeetingPairs tiAlongPairs tiSize evX evY evLower evBundle evCrossingOf evEventOf evLeftEvent evRightEvent evSize evCrossings evSegmentsNow grDegree grEdges grFar grQueue grQueued huX huY huSize huBestX huBestY S Rw) H → va_D (xsF X) (wK X kIsKept kIsStale hiLatest hiSize scBytes scTold scLength scFault scAt scNumber piSegmentsNow enKind enX enY enLower enFromX enFromY enToX enToY tiTouching tiLyingAlong tiMeetingPairs tiAlongPairs tiSize evX evY evLower evBundle evCrossingOf evEventOf evLeftEvent evRightEvent evSize evCrossings evSegmentsNow grDegree grEdges grFar grQueue grQueued huX huY huSize huBestX huBestY S Rw) → va_S (xsF X) s.heap H locs → lv_has ls 11 [(0, .ref (xsA X (27 + 6 * js))), (3, .int a3), (4, .int a4), (5, .int o1)] → W p l e { frames := 3, cells := 0, slots := 0, locals := 67 } s m ([.ref (xsA X (27 + 6 * js)), .ref (xsA X 11), .int a2, .int a3, .int a4] : List Value).toArray below meth c H locs 0 0 (MQ below Qq ([.ref (xsA X (27 + 6 * js)), .ref (xsA X 11), .int a2, .int a3, .int a4] : List Value).toArray s 0 0 (xsF X)) (F0 m 98 ls []) := by
      intro hf H locs ls hP hD hS hl
      unfold fX8_isAhead_J98 at hf
      refine lv_aload_n hx hb dX8_isAhead_98 rfl (lv_at hl 0 rfl) ?_
      refine lv_iload_n hx hb dX8_isAhead_99 rfl (lv_at hl 1 rfl) ?_
      replace hf := xsBd_use hf
      obtain ⟨o5, h6, hf⟩ := hf
      refine xs_calll hS (xs_runV (As := [.int a3]) C (mX7_rise l (js := js) hjs hs_s h6) w_652 w_575 w_576 w_106 w_577 hd_X7_rise ⟨rfl, rfl, Nat.le_of_ble_eq_true rfl, Nat.le_of_ble_eq_true rfl, Nat.zero_le _, Nat.zero_le _⟩ hP hD hS (xs_lkS hjs) rfl hl.1 rfl (Nat.le_of_ble_eq_true rfl) dX8_isAhead_100) (fun H locs hP hD hS => ?_)
      refine lv_aload_n hx hb dX8_isAhead_103 rfl (lv_at hl 0 rfl) ?_
      refine lv_iload hx hb dX8_isAhead_104 (lv_at hl 2 rfl) ?_
      replace hf := xsBd_use hf
      obtain ⟨o7, h8, hf⟩ := hf
      refine xs_calll hS (xs_runV (As := [.int a4]) C (mX7_width l (js := js) hjs hs_s h8) w_644 w_571 w_572 w_106 w_573 hd_X7_width ⟨rfl, rfl, Nat.le_of_ble_eq_true rfl, Nat.le_of_ble_eq_true rfl, Nat.zero_le _, Nat.zero_le _⟩ hP hD hS (xs_lkS hjs) rfl hl.1 rfl (Nat.le_of_ble_eq_true rfl) dX8_isAhead_106) (fun H locs hP hD hS => ?_)
      refine lv_lmul hx hb dX8_isAhead_109 ?_
      refine lv_aload_n hx hb dX8_isAhead_110 rfl (lv_at hl 0 rfl) ?_
      refine lv_iload hx hb dX8_isAhead_111 (lv_at hl 2 rfl) ?_
      replace hf := xsBd_use hf
      obtain ⟨o9, h10, hf⟩ := hf
      refine xs_calll hS (xs_runV (As := [.int a4]) C (mX7_rise l (js := js) hjs hs_s h10) w_652 w_575 w_576 w_106 w_577 hd_X7_rise ⟨rfl, rfl, Nat.le_of_ble_eq_true rfl, Nat.le_of_ble_eq_true rfl, Nat.zero_le _, Nat.zero_le _⟩ hP hD hS (xs_lkS hjs) rfl hl.1 rfl (Nat.le_of_ble_eq_true rfl) dX8_isAhead_113) (fun H locs hP hD hS => ?_)
      refine lv_aload_n hx hb dX8_isAhead_116 rfl (lv_at hl 0 rfl) ?_
      refine lv_iload_n hx hb dX8_isAhead_117 rfl (lv_at hl 1 rfl) ?_
      replace hf := xsBd_use hf
      obtain ⟨o11, h12, hf⟩ := hf
      refine xs_calll hS (xs_runV (As := [.int a3]) C (mX7_width l (js := js) hjs hs_s h12) w_644 w_571 w_572 w_106 w_573 hd_X7_width ⟨rfl, rfl, Nat.le_of_ble_eq_true rfl, Nat.le_of_ble_eq_true rfl, Nat.zero_le _, Nat.zero_le _⟩ hP hD hS (xs_lkS hjs) rfl hl.1 rfl (Nat.le_of_ble_eq_true rfl) dX8_isAhead_118) (fun H locs hP hD hS => ?_)
      refine lv_lmul hx hb dX8_isAhead_121 ?_
      refine lv_lsub hx hb dX8_isAhead_122 ?_
      refine lv_topl (fun x13 ex13 => ?_)
      replace hf := xsLt_use ex13 hf
      refine lv_lstore (lv' := [(7, .long x13), (0, .ref (xsA X (27 + 6 * js))), (3, .int a3), (4, .int a4), (5, .int o1)]) hx hb dX8_isAhead_123 hl (by decide) rfl (fun ls hl => ?_)
      refine lv_lload hx hb dX8_isAhead_125 (lv_at hl 0 rfl) ?_
      refine lv_lconst (v := (0 : Int64)) hx hb dX8_isAhead_127 (by decide) ?_
      refine xs_lcmp_ne (tgt := 144) C dX8_isAhead_128 dX8_isAhead_129 (by decide) (fun c18 => ?_) (fun c18 => ?_)
      · replace hf := xsBr_f c18 hf
        refine lv_iload hx hb dX8_isAhead_144 (lv_at hl 4 rfl) ?_
        refine lv_if_le (tgt := 164) hx hb dX8_isAhead_146 (by decide) (fun c16 => ?_) (fun c16 => ?_)
        · replace hf := xsBr_t c16 hf
          refine lv_lload hx hb dX8_isAhead_164 (lv_at hl 0 rfl) ?_
          refine lv_lconst (v := (0 : Int64)) hx hb dX8_isAhead_166 (by decide) ?_
          refine xs_lcmp_ge (tgt := 175) C dX8_isAhead_167 dX8_isAhead_168 (by decide) (fun c14 => ?_) (fun c14 => ?_)
          · replace hf := xsBr_t c14 hf
            refine lv_iconst (v := (0 : Int32)) hx hb dX8_isAhead_175 (by decide) ?_
            have ho := Option.some.inj hf
            subst ho
            rw [hQq]
            exact xs_zret C hr hlk xsB_0 hP hD hS dX8_isAhead_176
          · replace hf := xsBr_f c14 hf
            refine lv_iconst (v := (1 : Int32)) hx hb dX8_isAhead_171 (by decide) ?_
            refine lv_goto (tgt := 176) hx hb dX8_isAhead_172 (by decide) ?_
            have ho := Option.some.inj hf
            subst ho
            rw [hQq]
            exact xs_zret C hr hlk xsB_1 hP hD hS dX8_isAhead_176
        · replace hf := xsBr_f c16 hf
          refine lv_lload hx hb dX8_isAhead_149 (lv_at hl 0 rfl) ?_
          refine lv_lconst (v := (0 : Int64)) hx hb dX8_isAhead_151 (by decide) ?_
          refine xs_lcmp_le (tgt := 160) C dX8_isAhead_152 dX8_isAhead_153 (by decide) (fun c15 => ?_) (fun c15 => ?_)
          · replace hf := xsBr_t c15 hf
            refine lv_iconst (v := (0 : Int32)) hx hb dX8_isAhead_160 (by decide) ?_
            refine lv_goto (tgt := 176) hx hb dX8_isAhead_161 (by decide) ?_
            have ho := Option.some.inj hf
            subst ho
            rw [hQq]
            exact xs_zret C hr hlk xsB_0 hP hD hS dX8_isAhead_176
          · replace hf := xsBr_f c15 hf
            refine lv_iconst (v := (1 : Int32)) hx hb dX8_isAhead_156 (by decide) ?_
            refine lv_goto (tgt := 176) hx hb dX8_isAhead_157 (by decide) ?_
            have ho := Option.some.inj hf
            subst ho
            rw [hQq]
            exact xs_zret C hr hlk xsB_1 hP hD hS dX8_isAhead_176
      · replace hf := xsBr_t c18 hf
        refine lv_iload_n hx hb dX8_isAhead_132 rfl (lv_at hl 2 rfl) ?_
        refine lv_iload hx hb dX8_isAhead_133 (lv_at hl 3 rfl) ?_
        refine lv_icmp_ge (tgt := 142) hx hb dX8_isAhead_135 (by decide) (fun c17 => ?_) (fun c17 => ?_)
        · replace hf := xsBr_t c17 hf
          refine lv_iconst (v := (0 : Int32)) hx hb dX8_isAhead_142 (by decide) ?_
          have ho := Option.some.inj hf
          subst ho
          rw [hQq]
          exact xs_zret C hr hlk xsB_0 hP hD hS dX8_isAhead_143
        · replace hf := xsBr_f c17 hf
          refine lv_iconst (v := (1 : Int32)) hx hb dX8_isAhead_138 (by decide) ?_
          refine lv_goto (tgt := 143) hx hb dX8_isAhead_139 (by decide) ?_
          have ho := Option.some.inj hf
          subst ho
          rw [hQq]
          exact xs_zret C hr hlk xsB_1 hP hD hS dX8_isAhead_143
    refine lv_if_eq (tgt := 98) hx hb dX8_isAhead_41 (by decide) (fun c32 => ?_) (fun c32 => ?_)
    · replace hf := xsBr_t c32 hf
      exact K19 hf H locs ls hP hD hS (lv_sub hl [2, 5, 6, 1] rfl)
    · replace hf := xsBr_f c32 hf
      refine lv_aload_n hx hb dX8_isAhead_44 rfl (lv_at hl 2 rfl) ?_
      refine lv_aload_n hx hb dX8_isAhead_45 rfl (lv_at hl 3 rfl) ?_
      refine lv_iload_n hx hb dX8_isAhead_46 rfl (lv_at hl 4 rfl) ?_
      refine lv_iload_n hx hb dX8_isAhead_47 rfl (lv_at hl 5 rfl) ?_
      replace hf := xsBd_use hf
      obtain ⟨o20, h21, hf⟩ := hf
      refine xs_calll hS (xs_runS (As := [.ref (xsA X (27 + 6 * js)), .ref (xsA X 11), .int a2, .int a3]) C (mX8_heightAt l (js := js) hjs hs_s h21) w_649 w_650 w_130 w_651 hd_X8_heightAt ⟨rfl, rfl, Nat.le_of_ble_eq_true rfl, Nat.le_of_ble_eq_true rfl, Nat.zero_le _, Nat.zero_le _⟩ hP hD hS hl.1 rfl (Nat.le_of_ble_eq_true rfl) dX8_isAhead_48) (fun H locs hP hD hS => ?_)
      refine lv_aload_n hx hb dX8_isAhead_51 rfl (lv_at hl 2 rfl) ?_
      refine lv_iload hx hb dX8_isAhead_52 (lv_at hl 6 rfl) ?_
      replace hf := xsBd_use hf
      obtain ⟨o22, h23, hf⟩ := hf
      refine xs_calll hS (xs_runV (As := [.int a4]) C (mX7_width l (js := js) hjs hs_s h23) w_644 w_571 w_572 w_106 w_573 hd_X7_width ⟨rfl, rfl, Nat.le_of_ble_eq_true rfl, Nat.le_of_ble_eq_true rfl, Nat.zero_le _, Nat.zero_le _⟩ hP hD hS (xs_lkS hjs) rfl hl.1 rfl (Nat.le_of_ble_eq_true rfl) dX8_isAhead_54) (fun H locs hP hD hS => ?_)
      refine lv_lmul hx hb dX8_isAhead_57 ?_
      refine lv_topl (fun x24 ex24 => ?_)
      replace hf := xsLt_use ex24 hf
      refine lv_lstore (lv' := [(7, .long x24), (6, .int o3), (5, .int o1), (0, .ref (xsA X (27 + 6 * js))), (1, .ref (xsA X 11)), (2, .int a2), (3, .int a3), (4, .int a4)]) hx hb dX8_isAhead_58 hl (by decide) rfl (fun ls hl => ?_)
      refine lv_aload_n hx hb dX8_isAhead_60 rfl (lv_at hl 3 rfl) ?_
      refine lv_aload_n hx hb dX8_isAhead_61 rfl (lv_at hl 4 rfl) ?_
      refine lv_iload_n hx hb dX8_isAhead_62 rfl (lv_at hl 5 rfl) ?_
      refine lv_iload hx hb dX8_isAhead_63 (lv_at hl 7 rfl) ?_
      replace hf := xsBd_use hf
      obtain ⟨o25, h26, hf⟩ := hf
      refine xs_calll hS (xs_runS (As := [.ref (xsA X (27 + 6 * js)), .ref (xsA X 11), .int a2, .int a4]) C (mX8_heightAt l (js := js) hjs hs_s h26) w_649 w_650 w_130 w_651 hd_X8_heightAt ⟨rfl, rfl, Nat.le_of_ble_eq_true rfl, Nat.le_of_ble_eq_true rfl, Nat.zero_le _, Nat.zero_le _⟩ hP hD hS hl.1 rfl (Nat.le_of_ble_eq_true rfl) dX8_isAhead_65) (fun H locs hP hD hS => ?_)
      refine lv_aload_n hx hb dX8_isAhead_68 rfl (lv_at hl 3 rfl) ?_
      refine lv_iload_n hx hb dX8_isAhead_69 rfl (lv_at hl 6 rfl) ?_
      replace hf := xsBd_use hf
      obtain ⟨o27, h28, hf⟩ := hf
      refine xs_calll hS (xs_runV (As := [.int a3]) C (mX7_width l (js := js) hjs hs_s h28) w_644 w_571 w_572 w_106 w_573 hd_X7_width ⟨rfl, rfl, Nat.le_of_ble_eq_true rfl, Nat.le_of_ble_eq_true rfl, Nat.zero_le _, Nat.zero_le _⟩ hP hD hS (xs_lkS hjs) rfl hl.1 rfl (Nat.le_of_ble_eq_true rfl) dX8_isAhead_70) (fun H locs hP hD hS => ?_)
      refine lv_lmul hx hb dX8_isAhead_73 ?_
      refine lv_topl (fun x29 ex29 => ?_)
      replace hf := xsLt_use ex29 hf
      refine lv_lstore (lv' := [(9, .long x29), (7, .long x24), (6, .int o3), (5, .int o1), (0, .ref (xsA X (27 + 6 * js))), (1, .ref (xsA X 11)), (2, .int a2), (3, .int a3), (4, .int a4)]) hx hb dX8_isAhead_74 hl (by decide) rfl (fun ls hl => ?_)
      refine lv_lload hx hb dX8_isAhead_76 (lv_at hl 1 rfl) ?_
      refine lv_lload hx hb dX8_isAhead_78 (lv_at hl 0 rfl) ?_
      refine xs_lcmp_eq (tgt := 98) C dX8_isAhead_80 dX8_isAhead_81 (by decide) (fun c31 => ?_) (fun c31 => ?_)
      · replace hf := xsBr_t c31 hf
        exact K19 hf H locs ls hP hD hS (lv_sub hl [4, 7, 8, 3] rfl)
      · replace hf := xsBr_f c31 hf
        refine lv_lload hx hb dX8_isAhead_84 (lv_at hl 1 rfl) ?_
        refine lv_lload hx hb dX8_isAhead_86 (lv_at hl 0 rfl) ?_
        refine xs_lcmp_ge (tgt := 96) C dX8_isAhead_88 dX8_isAhead_89 (by decide) (fun c30 => ?_) (fun c30 => ?_)
        · replace hf := xsBr_t c30 hf
          refine lv_iconst (v := (0 : Int32)) hx hb dX8_isAhead_96 (by decide) ?_
          have ho := Option.some.inj hf
          subst ho
          rw [hQq]
          exact xs_zret C hr hlk xsB_0 hP hD hS dX8_isAhead_97
        · replace hf := xsBr_f c30 hf
          refine lv_iconst (v := (1 : Int32)) hx hb dX8_isAhead_92 (by decide) ?_
          refine lv_goto (tgt := 97) hx hb dX8_isAhead_93 (by decide) ?_
          have ho := Option.some.inj hf
          subst ho
          rw [hQq]
          exact xs_zret C hr hlk xsB_1 hP hD hS dX8_isAhead_97
  · replace hf := xsBr_f c34 hf
    refine lv_iload hx hb dX8_isAhead_26 (lv_at hl 1 rfl) ?_
    refine lv_iload hx hb dX8_isAhead_28 (lv_at hl 0 rfl) ?_
    refine lv_icmp_ge (tgt := 37) hx hb dX8_isAhead_30 (by decide) (fun c33 => ?_) (fun c33 => ?_)
    · replace hf := xsBr_t c33 hf
      refine lv_iconst (v := (0 : Int32)) hx hb dX8_isAhead_37 (by decide) ?_
      have ho := Option.some.inj hf
      subst ho
      rw [hQq]
      exact xs_zret C hr hlk xsB_0 hP hD hS dX8_isAhead_38
    · replace hf := xsBr_f c33 hf
      refine lv_iconst (v := (1 : Int32)) hx hb dX8_isAhead_33 (by decide) ?_
      refine lv_goto (tgt := 38) hx hb dX8_isAhead_34 (by decide) ?_
      have ho := Option.some.inj hf
      subst ho
      rw [hQq]
      exact xs_zret C hr hlk xsB_1 hP hD hS dX8_isAhead_38
set_option maxRecDepth 100000 in
set_option maxHeartbeats 8000000 in
theorem mX8_rankOf (l : Launch) {X : xsX} {kIsKept kIsStale hiLatest hiSize scLength scFault scAt scNumber piSegmentsNow enKind enFromX enFromY enToX enToY tiMeetingPairs tiAlongPairs tiSize evSize evCrossings evSegmentsNow grEdges grQueued huSize huBestX huBestY : Int32} {scBytes scTold tiTouching tiLyingAlong evBundle evCrossingOf evEventOf evLeftEvent evRightEvent grDegree grFar grQueue huX huY : Nat → Int32} {enX enY enLower : Int64} {evX evY evLower : Nat → Int64} {S : Nat → xsV} {Rw : va_W} {js : Nat} (hjs : js < 12) {sLx sLy sRx sRy sTi : Nat → Int32} {sSz : Int32} (hs_s : S js = (sLx, sLy, sRx, sRy, sTi, sSz)) {a2 : Int32} {a3 : Int32} {out : Int32} (hf : fX8_rankOf evX evY evLower evLeftEvent evRightEvent evSegmentsNow sLx sLy sRx sRy sSz a2 a3 = some out) : Met l yX8_rankOf (xsWs yX8_rankOf cX8_rankOf 7 (some .int)) { frames := 4, cells := 0, slots := 0, locals := 97 } (xsP X (wK X kIsKept kIsStale hiLatest hiSize scBytes scTold scLength scFault scAt scNumber piSegmentsNow enKind enX enY enLower enFromX enFromY enToX enToY tiTouching tiLyingAlong tiMeetingPairs tiAlongPairs tiSize evX evY evLower evBundle evCrossingOf evEventOf evLeftEvent evRightEvent evSize evCrossings evSegmentsNow grDegree grEdges grFar grQueue grQueued huX huY huSize huBestX huBestY S Rw) [.ref (xsA X (27 + 6 * js)), .ref (xsA X 11), .int a2, .int a3]) (xsQi X out (wK X kIsKept kIsStale hiLatest hiSize scBytes scTold scLength scFault scAt scNumber piSegmentsNow enKind enX enY enLower enFromX enFromY enToX enToY tiTouching tiLyingAlong tiMeetingPairs tiAlongPairs tiSize evX evY evLower evBundle evCrossingOf evEventOf evLeftEvent evRightEvent evSize evCrossings evSegmentsNow grDegree grEdges grFar grQueue grQueued huX huY huSize huBestX huBestY S Rw)) 0 0 (xsF X) := by
  refine xs_meth RX8 (by decide) rfl (Nat.le_of_ble_eq_true rfl) ?_
  intro p e s m below meth c ls H locs C hP hD hS hr hlk hl
  have hx := C.1
  have hb := C.2.1
  have hl : lv_has ls 7 [(0, .ref (xsA X (27 + 6 * js))), (1, .ref (xsA X 11)), (2, .int a2), (3, .int a3)] := hl
  obtain ⟨Qq, hQq⟩ : ∃ Qq, Qq = xsQi X out (wK X kIsKept kIsStale hiLatest hiSize scBytes scTold scLength scFault scAt scNumber piSegmentsNow enKind enX enY enLower enFromX enFromY enToX enToY tiTouching tiLyingAlong tiMeetingPairs tiAlongPairs tiSize evX evY evLower evBundle evCrossingOf evEventOf evLeftEvent evRightEvent evSize evCrossings evSegmentsNow grDegree grEdges grFar grQueue grQueued huX huY huSize huBestX huBestY S Rw) := ⟨_, rfl⟩
  rw [← hQq]
  unfold fX8_rankOf at hf
  refine lv_aload_n hx hb dX8_rankOf_0 rfl (lv_at hl 1 rfl) ?_
  refine lv_iload_n hx hb dX8_rankOf_1 rfl (lv_at hl 2 rfl) ?_
  replace hf := xsBd_use hf
  obtain ⟨o1, h2, hf⟩ := hf
  refine xs_calli hS (xs_runV (As := [.int a2]) C (mX1_aliveBehind l  h2) w_633 w_634 w_635 w_112 w_636 hd_X1_aliveBehind ⟨rfl, rfl, Nat.le_of_ble_eq_true rfl, Nat.le_of_ble_eq_true rfl, Nat.zero_le _, Nat.zero_le _⟩ hP hD hS lk_X1 rfl hl.1 rfl (Nat.le_of_ble_eq_true rfl) dX8_rankOf_2) (fun H locs hP hD hS => ?_)
  refine lv_istore (lv' := [(4, .int o1), (0, .ref (xsA X (27 + 6 * js))), (1, .ref (xsA X 11)), (2, .int a2), (3, .int a3)]) hx hb dX8_rankOf_5 hl (by decide) rfl (fun ls hl => ?_)
  refine lv_iconst (v := (0 : Int32)) hx hb dX8_rankOf_7 (by decide) ?_
  refine lv_istore (lv' := [(5, .int (0 : Int32)), (4, .int o1), (0, .ref (xsA X (27 + 6 * js))), (1, .ref (xsA X 11)), (2, .int a2), (3, .int a3)]) hx hb dX8_rankOf_8 hl (by decide) rfl (fun ls hl => ?_)
  refine lv_iconst (v := (0 : Int32)) hx hb dX8_rankOf_10 (by decide) ?_
  refine lv_istore (lv' := [(6, .int (0 : Int32)), (5, .int (0 : Int32)), (4, .int o1), (0, .ref (xsA X (27 + 6 * js))), (1, .ref (xsA X 11)), (2, .int a2), (3, .int a3)]) hx hb dX8_rankOf_11 hl (by decide) rfl (fun ls hl => ?_)
  have K5 : ∀ (y6 : Int32) (hf : fX8_rankOf_J53 y6 = some out) (H : Heap) (locs : List Loc) (ls : Array Slot), va_P (xsD X) vwCl (wK X kIsKept kIsStale hiLatest hiSize scBytes scTold scLength scFault scAt scNumber piSegmentsNow enKind enX enY enLower enFromX enFromY enToX enToY tiTouching tiLyingAlong tiMeetingPairs tiAlongPairs tiSize evX evY evLower evBundle evCrossingOf evEventOf evLeftEvent evRightEvent evSize evCrossings evSegmentsNow grDegree grEdges grFar grQueue grQueued huX huY huSize huBestX huBestY S Rw) H → va_D (xsF X) (wK X kIsKept kIsStale hiLatest hiSize scBytes scTold scLength scFault scAt scNumber piSegmentsNow enKind enX enY enLower enFromX enFromY enToX enToY tiTouching tiLyingAlong tiMeetingPairs tiAlongPairs tiSize evX evY evLower evBundle evCrossingOf evEventOf evLeftEvent evRightEvent evSize evCrossings evSegmentsNow grDegree grEdges grFar grQueue grQueued huX huY huSize huBestX huBestY S Rw) → va_S (xsF X) s.heap H locs → lv_has ls 7 [(5, .int y6)] → W p l e { frames := 4, cells := 0, slots := 0, locals := 97 } s m ([.ref (xsA X (27 + 6 * js)), .ref (xsA X 11), .int a2, .int a3] : List Value).toArray below meth c H locs 0 0 (MQ below Qq ([.ref (xsA X (27 + 6 * js)), .ref (xsA X 11), .int a2, .int a3] : List Value).toArray s 0 0 (xsF X)) (F0 m 53 ls []) := by
    intro y6 hf H locs ls hP hD hS hl
    unfold fX8_rankOf_J53 at hf
    refine lv_iload hx hb dX8_rankOf_53 (lv_at hl 0 rfl) ?_
    have ho := Option.some.inj hf
    subst ho
    rw [hQq]
    exact xs_iret C hr hlk hP hD hS dX8_rankOf_55
  replace hf := xsBd_use hf
  obtain ⟨r5, hk50, hf⟩ := hf
  have L5 : ∀ (sg : Int32 × Int32) (rg : Int32), xsWh (fun s5 => fX8_rankOf_L13 evX evY evLower sLx sLy sRx sRy sSz a2 a3 o1 s5.1 s5.2) sg = some rg → (fX8_rankOf_J53 rg = some out → ∀ (H : Heap) (locs : List Loc) (ls : Array Slot), va_P (xsD X) vwCl (wK X kIsKept kIsStale hiLatest hiSize scBytes scTold scLength scFault scAt scNumber piSegmentsNow enKind enX enY enLower enFromX enFromY enToX enToY tiTouching tiLyingAlong tiMeetingPairs tiAlongPairs tiSize evX evY evLower evBundle evCrossingOf evEventOf evLeftEvent evRightEvent evSize evCrossings evSegmentsNow grDegree grEdges grFar grQueue grQueued huX huY huSize huBestX huBestY S Rw) H → va_D (xsF X) (wK X kIsKept kIsStale hiLatest hiSize scBytes scTold scLength scFault scAt scNumber piSegmentsNow enKind enX enY enLower enFromX enFromY enToX enToY tiTouching tiLyingAlong tiMeetingPairs tiAlongPairs tiSize evX evY evLower evBundle evCrossingOf evEventOf evLeftEvent evRightEvent evSize evCrossings evSegmentsNow grDegree grEdges grFar grQueue grQueued huX huY huSize huBestX huBestY S Rw) → va_S (xsF X) s.heap H locs → lv_has ls 7 [(0, .ref (xsA X (27 + 6 * js))), (1, .ref (xsA X 11)), (2, .int a2), (3, .int a3), (4, .int o1), (5, .int sg.1), (6, .int sg.2)] → W p l e { frames := 4, cells := 0, slots := 0, locals := 97 } s m ([.ref (xsA X (27 + 6 * js)), .ref (xsA X 11), .int a2, .int a3] : List Value).toArray below meth c H locs 0 0 (MQ below Qq ([.ref (xsA X (27 + 6 * js)), .ref (xsA X 11), .int a2, .int a3] : List Value).toArray s 0 0 (xsF X)) (F0 m 13 ls [])) := by
    refine xsWh_ind ?_
    intro sg r5 u5 hf ih5 hx5 hk5 H locs ls hP hD hS hl
    obtain ⟨y3, y4⟩ := sg
    replace hf : fX8_rankOf_L13 evX evY evLower sLx sLy sRx sRy sSz a2 a3 o1 y3 y4 = some u5 := hf
    replace hl : lv_has ls 7 [(0, .ref (xsA X (27 + 6 * js))), (1, .ref (xsA X 11)), (2, .int a2), (3, .int a3), (4, .int o1), (5, .int y3), (6, .int y4)] := hl
    replace hP : va_P (xsD X) vwCl (wK X kIsKept kIsStale hiLatest hiSize scBytes scTold scLength scFault scAt scNumber piSegmentsNow enKind enX enY enLower enFromX enFromY enToX enToY tiTouching tiLyingAlong tiMeetingPairs tiAlongPairs tiSize evX evY evLower evBundle evCrossingOf evEventOf evLeftEvent evRightEvent evSize evCrossings evSegmentsNow grDegree grEdges grFar grQueue grQueued huX huY huSize huBestX huBestY S Rw) H := hP
    replace hD : va_D (xsF X) (wK X kIsKept kIsStale hiLatest hiSize scBytes scTold scLength scFault scAt scNumber piSegmentsNow enKind enX enY enLower enFromX enFromY enToX enToY tiTouching tiLyingAlong tiMeetingPairs tiAlongPairs tiSize evX evY evLower evBundle evCrossingOf evEventOf evLeftEvent evRightEvent evSize evCrossings evSegmentsNow grDegree grEdges grFar grQueue grQueued huX huY huSize huBestX huBestY S Rw) := hD
    unfold fX8_rankOf_L13 at hf
    refine lv_iload hx hb dX8_rankOf_13 (lv_at hl 6 rfl) ?_
    refine lv_aload_n hx hb dX8_rankOf_15 rfl (lv_at hl 0 rfl) ?_
    refine xg_X8_15 (j := js) hjs hs_s C hP dX8_rankOf_16 ?_
    refine lv_icmp_ge (tgt := 53) hx hb dX8_rankOf_19 (by decide) (fun c19 => ?_) (fun c19 => ?_)
    · replace hf := xsBr_t c19 hf
      have ez := hx5 _ (Option.some.inj hf).symm
      subst ez
      exact K5 y3 hk5 H locs ls hP hD hS (lv_sub hl [5] rfl)
    · replace hf := xsBr_f c19 hf
      refine lv_iload hx hb dX8_rankOf_22 (lv_at hl 4 rfl) ?_
      refine lv_iload hx hb dX8_rankOf_24 (lv_at hl 6 rfl) ?_
      replace hf := xsBd_use hf
      obtain ⟨o7, h8, hf⟩ := hf
      refine xs_calli hS (xs_runSN (As := [.int o1, .int y4]) C (mX10_has l  h8) C.2.2.2.2.2.2.2.1.2.2.1 w_605 w_105 w_606 hd_X10_has ⟨rfl, rfl, Nat.le_of_ble_eq_true rfl, Nat.le_of_ble_eq_true rfl, Nat.zero_le _, Nat.zero_le _⟩ hP hD hS hl.1 rfl (Nat.le_of_ble_eq_true rfl) dX8_rankOf_26) (fun H locs hP hD hS => ?_)
      have K13 : ∀ (y9 : Int32) (hf : fX8_rankOf_J47 y4 y9 = some u5) (H : Heap) (locs : List Loc) (ls : Array Slot), va_P (xsD X) vwCl (wK X kIsKept kIsStale hiLatest hiSize scBytes scTold scLength scFault scAt scNumber piSegmentsNow enKind enX enY enLower enFromX enFromY enToX enToY tiTouching tiLyingAlong tiMeetingPairs tiAlongPairs tiSize evX evY evLower evBundle evCrossingOf evEventOf evLeftEvent evRightEvent evSize evCrossings evSegmentsNow grDegree grEdges grFar grQueue grQueued huX huY huSize huBestX huBestY S Rw) H → va_D (xsF X) (wK X kIsKept kIsStale hiLatest hiSize scBytes scTold scLength scFault scAt scNumber piSegmentsNow enKind enX enY enLower enFromX enFromY enToX enToY tiTouching tiLyingAlong tiMeetingPairs tiAlongPairs tiSize evX evY evLower evBundle evCrossingOf evEventOf evLeftEvent evRightEvent evSize evCrossings evSegmentsNow grDegree grEdges grFar grQueue grQueued huX huY huSize huBestX huBestY S Rw) → va_S (xsF X) s.heap H locs → lv_has ls 7 [(0, .ref (xsA X (27 + 6 * js))), (1, .ref (xsA X 11)), (2, .int a2), (3, .int a3), (4, .int o1), (5, .int y9), (6, .int y4)] → W p l e { frames := 4, cells := 0, slots := 0, locals := 97 } s m ([.ref (xsA X (27 + 6 * js)), .ref (xsA X 11), .int a2, .int a3] : List Value).toArray below meth c H locs 0 0 (MQ below Qq ([.ref (xsA X (27 + 6 * js)), .ref (xsA X 11), .int a2, .int a3] : List Value).toArray s 0 0 (xsF X)) (F0 m 47 ls []) := by
        intro y9 hf H locs ls hP hD hS hl
        unfold fX8_rankOf_J47 at hf
        obtain ⟨x10, ex10⟩ : ∃ y : Int32, y = y4 + (1 : Int32) := ⟨_, rfl⟩
        replace hf := xsLt_use ex10 hf
        refine lv_iinc (v := x10) (lv' := [(6, .int x10), (0, .ref (xsA X (27 + 6 * js))), (1, .ref (xsA X 11)), (2, .int a2), (3, .int a3), (4, .int o1), (5, .int y9)]) hx hb dX8_rankOf_47 hl (k := 6) rfl (by rw [ex10]; rfl) (by decide) rfl (fun ls hl => ?_)
        refine lv_goto (tgt := 13) hx hb dX8_rankOf_50 (by decide) ?_
        exact ih5 _ (Option.some.inj hf).symm hk5 H locs ls hP hD hS (lv_sub hl [1, 2, 3, 4, 5, 6, 0] rfl)
      replace hf := xsBd_use hf
      obtain ⟨v11, hf, hk12⟩ := hf
      refine lv_if_eq (tgt := 47) hx hb dX8_rankOf_29 (by decide) (fun c18 => ?_) (fun c18 => ?_)
      · replace hf := xsBr_t c18 hf
        have ev := Option.some.inj hf
        subst ev
        exact K13 y3 hk12 H locs ls hP hD hS (lv_sub hl [0, 1, 2, 3, 4, 5, 6] rfl)
      · replace hf := xsBr_f c18 hf
        refine lv_aload_n hx hb dX8_rankOf_32 rfl (lv_at hl 0 rfl) ?_
        refine lv_aload_n hx hb dX8_rankOf_33 rfl (lv_at hl 1 rfl) ?_
        refine lv_iload_n hx hb dX8_rankOf_34 rfl (lv_at hl 2 rfl) ?_
        refine lv_iload hx hb dX8_rankOf_35 (lv_at hl 6 rfl) ?_
        refine lv_iload_n hx hb dX8_rankOf_37 rfl (lv_at hl 3 rfl) ?_
        replace hf := xsBd_use hf
        obtain ⟨o14, h15, hf⟩ := hf
        refine xs_calli hS (xs_runS (As := [.ref (xsA X (27 + 6 * js)), .ref (xsA X 11), .int a2, .int y4, .int a3]) C (mX8_isAhead l (js := js) hjs hs_s h15) w_638 w_639 w_130 w_640 hd_X8_isAhead ⟨rfl, rfl, Nat.le_of_ble_eq_true rfl, Nat.le_of_ble_eq_true rfl, Nat.zero_le _, Nat.zero_le _⟩ hP hD hS hl.1 rfl (Nat.le_of_ble_eq_true rfl) dX8_rankOf_38) (fun H locs hP hD hS => ?_)
        refine lv_if_eq (tgt := 47) hx hb dX8_rankOf_41 (by decide) (fun c17 => ?_) (fun c17 => ?_)
        · replace hf := xsBr_t c17 hf
          have ev := Option.some.inj hf
          subst ev
          exact K13 y3 hk12 H locs ls hP hD hS (lv_sub hl [0, 1, 2, 3, 4, 5, 6] rfl)
        · replace hf := xsBr_f c17 hf
          obtain ⟨x16, ex16⟩ : ∃ y : Int32, y = y3 + (1 : Int32) := ⟨_, rfl⟩
          replace hf := xsLt_use ex16 hf
          refine lv_iinc (v := x16) (lv' := [(5, .int x16), (0, .ref (xsA X (27 + 6 * js))), (1, .ref (xsA X 11)), (2, .int a2), (3, .int a3), (4, .int o1), (6, .int y4)]) hx hb dX8_rankOf_44 hl (k := 5) rfl (by rw [ex16]; rfl) (by decide) rfl (fun ls hl => ?_)
          have ev := Option.some.inj hf
          subst ev
          exact K13 x16 hk12 H locs ls hP hD hS (lv_sub hl [1, 2, 3, 4, 5, 0, 6] rfl)
  exact L5 ((0 : Int32), (0 : Int32)) r5 hk50 hf H locs ls hP hD hS (lv_sub hl [3, 4, 5, 6, 2, 1, 0] rfl)
set_option maxRecDepth 100000 in
set_option maxHeartbeats 8000000 in
theorem mX8_last (l : Launch) {X : xsX} {kIsKept kIsStale hiLatest hiSize scLength scFault scAt scNumber piSegmentsNow enKind enFromX enFromY enToX enToY tiMeetingPairs tiAlongPairs tiSize evSize evCrossings evSegmentsNow grEdges grQueued huSize huBestX huBestY : Int32} {scBytes scTold tiTouching tiLyingAlong evBundle evCrossingOf evEventOf evLeftEvent evRightEvent grDegree grFar grQueue huX huY : Nat → Int32} {enX enY enLower : Int64} {evX evY evLower : Nat → Int64} {S : Nat → xsV} {Rw : va_W} {js : Nat} (hjs : js < 12) {sLx sLy sRx sRy sTi : Nat → Int32} {sSz : Int32} (hs_s : S js = (sLx, sLy, sRx, sRy, sTi, sSz)) {a2 : Int32} {out : Int32} (hf : fX8_last evX evY evLower evLeftEvent evRightEvent evSegmentsNow sLx sLy sRx sRy sSz a2 = some out) : Met l yX8_last (xsWs yX8_last cX8_last 6 (some .int)) { frames := 4, cells := 0, slots := 0, locals := 97 } (xsP X (wK X kIsKept kIsStale hiLatest hiSize scBytes scTold scLength scFault scAt scNumber piSegmentsNow enKind enX enY enLower enFromX enFromY enToX enToY tiTouching tiLyingAlong tiMeetingPairs tiAlongPairs tiSize evX evY evLower evBundle evCrossingOf evEventOf evLeftEvent evRightEvent evSize evCrossings evSegmentsNow grDegree grEdges grFar grQueue grQueued huX huY huSize huBestX huBestY S Rw) [.ref (xsA X (27 + 6 * js)), .ref (xsA X 11), .int a2]) (xsQi X out (wK X kIsKept kIsStale hiLatest hiSize scBytes scTold scLength scFault scAt scNumber piSegmentsNow enKind enX enY enLower enFromX enFromY enToX enToY tiTouching tiLyingAlong tiMeetingPairs tiAlongPairs tiSize evX evY evLower evBundle evCrossingOf evEventOf evLeftEvent evRightEvent evSize evCrossings evSegmentsNow grDegree grEdges grFar grQueue grQueued huX huY huSize huBestX huBestY S Rw)) 0 0 (xsF X) := by
  refine xs_meth RX8 (by decide) rfl (Nat.le_of_ble_eq_true rfl) ?_
  intro p e s m below meth c ls H locs C hP hD hS hr hlk hl
  have hx := C.1
  have hb := C.2.1
  have hl : lv_has ls 6 [(0, .ref (xsA X (27 + 6 * js))), (1, .ref (xsA X 11)), (2, .int a2)] := hl
  obtain ⟨Qq, hQq⟩ : ∃ Qq, Qq = xsQi X out (wK X kIsKept kIsStale hiLatest hiSize scBytes scTold scLength scFault scAt scNumber piSegmentsNow enKind enX enY enLower enFromX enFromY enToX enToY tiTouching tiLyingAlong tiMeetingPairs tiAlongPairs tiSize evX evY evLower evBundle evCrossingOf evEventOf evLeftEvent evRightEvent evSize evCrossings evSegmentsNow grDegree grEdges grFar grQueue grQueued huX huY huSize huBestX huBestY S Rw) := ⟨_, rfl⟩
  rw [← hQq]
  unfold fX8_last at hf
  refine lv_aload_n hx hb dX8_last_0 rfl (lv_at hl 1 rfl) ?_
  refine lv_iload_n hx hb dX8_last_1 rfl (lv_at hl 2 rfl) ?_
  replace hf := xsBd_use hf
  obtain ⟨o1, h2, hf⟩ := hf
  refine xs_calli hS (xs_runV (As := [.int a2]) C (mX1_aliveBehind l  h2) w_633 w_634 w_635 w_112 w_636 hd_X1_aliveBehind ⟨rfl, rfl, Nat.le_of_ble_eq_true rfl, Nat.le_of_ble_eq_true rfl, Nat.zero_le _, Nat.zero_le _⟩ hP hD hS lk_X1 rfl hl.1 rfl (Nat.le_of_ble_eq_true rfl) dX8_last_2) (fun H locs hP hD hS => ?_)
  refine lv_istore_n (lv' := [(3, .int o1), (0, .ref (xsA X (27 + 6 * js))), (1, .ref (xsA X 11)), (2, .int a2)]) hx hb dX8_last_5 rfl hl (by decide) rfl (fun ls hl => ?_)
  refine lv_iconst (v := (-1 : Int32)) hx hb dX8_last_6 (by decide) ?_
  refine lv_istore (lv' := [(4, .int (-1 : Int32)), (3, .int o1), (0, .ref (xsA X (27 + 6 * js))), (1, .ref (xsA X 11)), (2, .int a2)]) hx hb dX8_last_7 hl (by decide) rfl (fun ls hl => ?_)
  refine lv_iconst (v := (0 : Int32)) hx hb dX8_last_9 (by decide) ?_
  refine lv_istore (lv' := [(5, .int (0 : Int32)), (4, .int (-1 : Int32)), (3, .int o1), (0, .ref (xsA X (27 + 6 * js))), (1, .ref (xsA X 11)), (2, .int a2)]) hx hb dX8_last_10 hl (by decide) rfl (fun ls hl => ?_)
  have K5 : ∀ (y6 : Int32) (hf : fX8_last_J59 y6 = some out) (H : Heap) (locs : List Loc) (ls : Array Slot), va_P (xsD X) vwCl (wK X kIsKept kIsStale hiLatest hiSize scBytes scTold scLength scFault scAt scNumber piSegmentsNow enKind enX enY enLower enFromX enFromY enToX enToY tiTouching tiLyingAlong tiMeetingPairs tiAlongPairs tiSize evX evY evLower evBundle evCrossingOf evEventOf evLeftEvent evRightEvent evSize evCrossings evSegmentsNow grDegree grEdges grFar grQueue grQueued huX huY huSize huBestX huBestY S Rw) H → va_D (xsF X) (wK X kIsKept kIsStale hiLatest hiSize scBytes scTold scLength scFault scAt scNumber piSegmentsNow enKind enX enY enLower enFromX enFromY enToX enToY tiTouching tiLyingAlong tiMeetingPairs tiAlongPairs tiSize evX evY evLower evBundle evCrossingOf evEventOf evLeftEvent evRightEvent evSize evCrossings evSegmentsNow grDegree grEdges grFar grQueue grQueued huX huY huSize huBestX huBestY S Rw) → va_S (xsF X) s.heap H locs → lv_has ls 6 [(4, .int y6)] → W p l e { frames := 4, cells := 0, slots := 0, locals := 97 } s m ([.ref (xsA X (27 + 6 * js)), .ref (xsA X 11), .int a2] : List Value).toArray below meth c H locs 0 0 (MQ below Qq ([.ref (xsA X (27 + 6 * js)), .ref (xsA X 11), .int a2] : List Value).toArray s 0 0 (xsF X)) (F0 m 59 ls []) := by
    intro y6 hf H locs ls hP hD hS hl
    unfold fX8_last_J59 at hf
    refine lv_iload hx hb dX8_last_59 (lv_at hl 0 rfl) ?_
    have ho := Option.some.inj hf
    subst ho
    rw [hQq]
    exact xs_iret C hr hlk hP hD hS dX8_last_61
  replace hf := xsBd_use hf
  obtain ⟨r5, hk50, hf⟩ := hf
  have L5 : ∀ (sg : Int32 × Int32) (rg : Int32), xsWh (fun s5 => fX8_last_L12 evX evY evLower sLx sLy sRx sRy sSz a2 o1 s5.1 s5.2) sg = some rg → (fX8_last_J59 rg = some out → ∀ (H : Heap) (locs : List Loc) (ls : Array Slot), va_P (xsD X) vwCl (wK X kIsKept kIsStale hiLatest hiSize scBytes scTold scLength scFault scAt scNumber piSegmentsNow enKind enX enY enLower enFromX enFromY enToX enToY tiTouching tiLyingAlong tiMeetingPairs tiAlongPairs tiSize evX evY evLower evBundle evCrossingOf evEventOf evLeftEvent evRightEvent evSize evCrossings evSegmentsNow grDegree grEdges grFar grQueue grQueued huX huY huSize huBestX huBestY S Rw) H → va_D (xsF X) (wK X kIsKept kIsStale hiLatest hiSize scBytes scTold scLength scFault scAt scNumber piSegmentsNow enKind enX enY enLower enFromX enFromY enToX enToY tiTouching tiLyingAlong tiMeetingPairs tiAlongPairs tiSize evX evY evLower evBundle evCrossingOf evEventOf evLeftEvent evRightEvent evSize evCrossings evSegmentsNow grDegree grEdges grFar grQueue grQueued huX huY huSize huBestX huBestY S Rw) → va_S (xsF X) s.heap H locs → lv_has ls 6 [(0, .ref (xsA X (27 + 6 * js))), (1, .ref (xsA X 11)), (2, .int a2), (3, .int o1), (4, .int sg.1), (5, .int sg.2)] → W p l e { frames := 4, cells := 0, slots := 0, locals := 97 } s m ([.ref (xsA X (27 + 6 * js)), .ref (xsA X 11), .int a2] : List Value).toArray below meth c H locs 0 0 (MQ below Qq ([.ref (xsA X (27 + 6 * js)), .ref (xsA X 11), .int a2] : List Value).toArray s 0 0 (xsF X)) (F0 m 12 ls [])) := by
    refine xsWh_ind ?_
    intro sg r5 u5 hf ih5 hx5 hk5 H locs ls hP hD hS hl
    obtain ⟨y3, y4⟩ := sg
    replace hf : fX8_last_L12 evX evY evLower sLx sLy sRx sRy sSz a2 o1 y3 y4 = some u5 := hf
    replace hl : lv_has ls 6 [(0, .ref (xsA X (27 + 6 * js))), (1, .ref (xsA X 11)), (2, .int a2), (3, .int o1), (4, .int y3), (5, .int y4)] := hl
    replace hP : va_P (xsD X) vwCl (wK X kIsKept kIsStale hiLatest hiSize scBytes scTold scLength scFault scAt scNumber piSegmentsNow enKind enX enY enLower enFromX enFromY enToX enToY tiTouching tiLyingAlong tiMeetingPairs tiAlongPairs tiSize evX evY evLower evBundle evCrossingOf evEventOf evLeftEvent evRightEvent evSize evCrossings evSegmentsNow grDegree grEdges grFar grQueue grQueued huX huY huSize huBestX huBestY S Rw) H := hP
    replace hD : va_D (xsF X) (wK X kIsKept kIsStale hiLatest hiSize scBytes scTold scLength scFault scAt scNumber piSegmentsNow enKind enX enY enLower enFromX enFromY enToX enToY tiTouching tiLyingAlong tiMeetingPairs tiAlongPairs tiSize evX evY evLower evBundle evCrossingOf evEventOf evLeftEvent evRightEvent evSize evCrossings evSegmentsNow grDegree grEdges grFar grQueue grQueued huX huY huSize huBestX huBestY S Rw) := hD
    unfold fX8_last_L12 at hf
    refine lv_iload hx hb dX8_last_12 (lv_at hl 5 rfl) ?_
    refine lv_aload_n hx hb dX8_last_14 rfl (lv_at hl 0 rfl) ?_
    refine xg_X8_15 (j := js) hjs hs_s C hP dX8_last_15 ?_
    refine lv_icmp_ge (tgt := 59) hx hb dX8_last_18 (by decide) (fun c19 => ?_) (fun c19 => ?_)
    · replace hf := xsBr_t c19 hf
      have ez := hx5 _ (Option.some.inj hf).symm
      subst ez
      exact K5 y3 hk5 H locs ls hP hD hS (lv_sub hl [4] rfl)
    · replace hf := xsBr_f c19 hf
      refine lv_iload_n hx hb dX8_last_21 rfl (lv_at hl 3 rfl) ?_
      refine lv_iload hx hb dX8_last_22 (lv_at hl 5 rfl) ?_
      replace hf := xsBd_use hf
      obtain ⟨o7, h8, hf⟩ := hf
      refine xs_calli hS (xs_runSN (As := [.int o1, .int y4]) C (mX10_has l  h8) C.2.2.2.2.2.2.2.1.2.2.1 w_605 w_105 w_606 hd_X10_has ⟨rfl, rfl, Nat.le_of_ble_eq_true rfl, Nat.le_of_ble_eq_true rfl, Nat.zero_le _, Nat.zero_le _⟩ hP hD hS hl.1 rfl (Nat.le_of_ble_eq_true rfl) dX8_last_24) (fun H locs hP hD hS => ?_)
      have K13 : ∀ (y9 : Int32) (hf : fX8_last_J53 y4 y9 = some u5) (H : Heap) (locs : List Loc) (ls : Array Slot), va_P (xsD X) vwCl (wK X kIsKept kIsStale hiLatest hiSize scBytes scTold scLength scFault scAt scNumber piSegmentsNow enKind enX enY enLower enFromX enFromY enToX enToY tiTouching tiLyingAlong tiMeetingPairs tiAlongPairs tiSize evX evY evLower evBundle evCrossingOf evEventOf evLeftEvent evRightEvent evSize evCrossings evSegmentsNow grDegree grEdges grFar grQueue grQueued huX huY huSize huBestX huBestY S Rw) H → va_D (xsF X) (wK X kIsKept kIsStale hiLatest hiSize scBytes scTold scLength scFault scAt scNumber piSegmentsNow enKind enX enY enLower enFromX enFromY enToX enToY tiTouching tiLyingAlong tiMeetingPairs tiAlongPairs tiSize evX evY evLower evBundle evCrossingOf evEventOf evLeftEvent evRightEvent evSize evCrossings evSegmentsNow grDegree grEdges grFar grQueue grQueued huX huY huSize huBestX huBestY S Rw) → va_S (xsF X) s.heap H locs → lv_has ls 6 [(0, .ref (xsA X (27 + 6 * js))), (1, .ref (xsA X 11)), (2, .int a2), (3, .int o1), (4, .int y9), (5, .int y4)] → W p l e { frames := 4, cells := 0, slots := 0, locals := 97 } s m ([.ref (xsA X (27 + 6 * js)), .ref (xsA X 11), .int a2] : List Value).toArray below meth c H locs 0 0 (MQ below Qq ([.ref (xsA X (27 + 6 * js)), .ref (xsA X 11), .int a2] : List Value).toArray s 0 0 (xsF X)) (F0 m 53 ls []) := by
        intro y9 hf H locs ls hP hD hS hl
        unfold fX8_last_J53 at hf
        obtain ⟨x10, ex10⟩ : ∃ y : Int32, y = y4 + (1 : Int32) := ⟨_, rfl⟩
        replace hf := xsLt_use ex10 hf
        refine lv_iinc (v := x10) (lv' := [(5, .int x10), (0, .ref (xsA X (27 + 6 * js))), (1, .ref (xsA X 11)), (2, .int a2), (3, .int o1), (4, .int y9)]) hx hb dX8_last_53 hl (k := 5) rfl (by rw [ex10]; rfl) (by decide) rfl (fun ls hl => ?_)
        refine lv_goto (tgt := 12) hx hb dX8_last_56 (by decide) ?_
        exact ih5 _ (Option.some.inj hf).symm hk5 H locs ls hP hD hS (lv_sub hl [1, 2, 3, 4, 5, 0] rfl)
      replace hf := xsBd_use hf
      obtain ⟨v11, hf, hk12⟩ := hf
      refine lv_if_eq (tgt := 53) hx hb dX8_last_27 (by decide) (fun c18 => ?_) (fun c18 => ?_)
      · replace hf := xsBr_t c18 hf
        have ev := Option.some.inj hf
        subst ev
        exact K13 y3 hk12 H locs ls hP hD hS (lv_sub hl [0, 1, 2, 3, 4, 5] rfl)
      · replace hf := xsBr_f c18 hf
        refine lv_iload hx hb dX8_last_30 (lv_at hl 4 rfl) ?_
        refine lv_iconst (v := (-1 : Int32)) hx hb dX8_last_32 (by decide) ?_
        refine lv_icmp_eq (tgt := 49) hx hb dX8_last_33 (by decide) (fun c17 => ?_) (fun c17 => ?_)
        · replace hf := xsBr_t c17 hf
          refine lv_iload hx hb dX8_last_49 (lv_at hl 5 rfl) ?_
          refine lv_istore (lv' := [(4, .int y4), (0, .ref (xsA X (27 + 6 * js))), (1, .ref (xsA X 11)), (2, .int a2), (3, .int o1), (5, .int y4)]) hx hb dX8_last_51 hl (by decide) rfl (fun ls hl => ?_)
          have ev := Option.some.inj hf
          subst ev
          exact K13 y4 hk12 H locs ls hP hD hS (lv_sub hl [1, 2, 3, 4, 0, 5] rfl)
        · replace hf := xsBr_f c17 hf
          refine lv_aload_n hx hb dX8_last_36 rfl (lv_at hl 0 rfl) ?_
          refine lv_aload_n hx hb dX8_last_37 rfl (lv_at hl 1 rfl) ?_
          refine lv_iload_n hx hb dX8_last_38 rfl (lv_at hl 2 rfl) ?_
          refine lv_iload hx hb dX8_last_39 (lv_at hl 4 rfl) ?_
          refine lv_iload hx hb dX8_last_41 (lv_at hl 5 rfl) ?_
          replace hf := xsBd_use hf
          obtain ⟨o14, h15, hf⟩ := hf
          refine xs_calli hS (xs_runS (As := [.ref (xsA X (27 + 6 * js)), .ref (xsA X 11), .int a2, .int y3, .int y4]) C (mX8_isAhead l (js := js) hjs hs_s h15) w_638 w_639 w_130 w_640 hd_X8_isAhead ⟨rfl, rfl, Nat.le_of_ble_eq_true rfl, Nat.le_of_ble_eq_true rfl, Nat.zero_le _, Nat.zero_le _⟩ hP hD hS hl.1 rfl (Nat.le_of_ble_eq_true rfl) dX8_last_43) (fun H locs hP hD hS => ?_)
          refine lv_if_eq (tgt := 53) hx hb dX8_last_46 (by decide) (fun c16 => ?_) (fun c16 => ?_)
          · replace hf := xsBr_t c16 hf
            have ev := Option.some.inj hf
            subst ev
            exact K13 y3 hk12 H locs ls hP hD hS (lv_sub hl [0, 1, 2, 3, 4, 5] rfl)
          · replace hf := xsBr_f c16 hf
            refine lv_iload hx hb dX8_last_49 (lv_at hl 5 rfl) ?_
            refine lv_istore (lv' := [(4, .int y4), (0, .ref (xsA X (27 + 6 * js))), (1, .ref (xsA X 11)), (2, .int a2), (3, .int o1), (5, .int y4)]) hx hb dX8_last_51 hl (by decide) rfl (fun ls hl => ?_)
            have ev := Option.some.inj hf
            subst ev
            exact K13 y4 hk12 H locs ls hP hD hS (lv_sub hl [1, 2, 3, 4, 0, 5] rfl)
  exact L5 ((-1 : Int32), (0 : Int32)) r5 hk50 hf H locs ls hP hD hS (lv_sub hl [3, 4, 5, 2, 1, 0] rfl)
set_option maxRecDepth 100000 in
set_option maxHeartbeats 8000000 in
theorem mX9_distance (l : Launch) {X : xsX} {kIsKept kIsStale hiLatest hiSize scLength scFault scAt scNumber piSegmentsNow enKind enFromX enFromY enToX enToY tiMeetingPairs tiAlongPairs tiSize evSize evCrossings evSegmentsNow grEdges grQueued huSize huBestX huBestY : Int32} {scBytes scTold tiTouching tiLyingAlong evBundle evCrossingOf evEventOf evLeftEvent evRightEvent grDegree grFar grQueue huX huY : Nat → Int32} {enX enY enLower : Int64} {evX evY evLower : Nat → Int64} {S : Nat → xsV} {Rw : va_W} {a0 : Int32} {a1 : Int32} {out : Int32} (hf : fX9_distance tiTouching tiSize a0 a1 = some out) : Met l yX9_distance (xsWs yX9_distance cX9_distance 5 (some .int)) { frames := 2, cells := 0, slots := 0, locals := 44 } (xsP X (wK X kIsKept kIsStale hiLatest hiSize scBytes scTold scLength scFault scAt scNumber piSegmentsNow enKind enX enY enLower enFromX enFromY enToX enToY tiTouching tiLyingAlong tiMeetingPairs tiAlongPairs tiSize evX evY evLower evBundle evCrossingOf evEventOf evLeftEvent evRightEvent evSize evCrossings evSegmentsNow grDegree grEdges grFar grQueue grQueued huX huY huSize huBestX huBestY S Rw) [.ref (xsA X 8), .int a0, .int a1]) (xsQi X out (wK X kIsKept kIsStale hiLatest hiSize scBytes scTold scLength scFault scAt scNumber piSegmentsNow enKind enX enY enLower enFromX enFromY enToX enToY tiTouching tiLyingAlong tiMeetingPairs tiAlongPairs tiSize evX evY evLower evBundle evCrossingOf evEventOf evLeftEvent evRightEvent evSize evCrossings evSegmentsNow grDegree grEdges grFar grQueue grQueued huX huY huSize huBestX huBestY S Rw)) 0 0 (xsF X) := by
  refine xs_meth RX9 (by decide) rfl (Nat.le_of_ble_eq_true rfl) ?_
  intro p e s m below meth c ls H locs C hP hD hS hr hlk hl
  have hx := C.1
  have hb := C.2.1
  have hl : lv_has ls 5 [(0, .ref (xsA X 8)), (1, .int a0), (2, .int a1)] := hl
  obtain ⟨Qq, hQq⟩ : ∃ Qq, Qq = xsQi X out (wK X kIsKept kIsStale hiLatest hiSize scBytes scTold scLength scFault scAt scNumber piSegmentsNow enKind enX enY enLower enFromX enFromY enToX enToY tiTouching tiLyingAlong tiMeetingPairs tiAlongPairs tiSize evX evY evLower evBundle evCrossingOf evEventOf evLeftEvent evRightEvent evSize evCrossings evSegmentsNow grDegree grEdges grFar grQueue grQueued huX huY huSize huBestX huBestY S Rw) := ⟨_, rfl⟩
  rw [← hQq]
  unfold fX9_distance at hf
  refine lv_iconst (v := (1 : Int32)) hx hb dX9_distance_0 (by decide) ?_
  refine lv_iload_n hx hb dX9_distance_1 rfl (lv_at hl 1 rfl) ?_
  refine lv_ishl hx hb dX9_distance_2 ?_
  refine lv_topi (fun x1 ex1 => ?_)
  replace hf := xsLt_use ex1 hf
  refine lv_istore_n (lv' := [(3, .int x1), (0, .ref (xsA X 8)), (1, .int a0), (2, .int a1)]) hx hb dX9_distance_3 rfl hl (by decide) rfl (fun ls hl => ?_)
  refine lv_iconst (v := (0 : Int32)) hx hb dX9_distance_4 (by decide) ?_
  refine lv_istore (lv' := [(4, .int (0 : Int32)), (3, .int x1), (0, .ref (xsA X 8)), (1, .int a0), (2, .int a1)]) hx hb dX9_distance_5 hl (by decide) rfl (fun ls hl => ?_)
  have K4 : ∀ (hf : fX9_distance_J39 = some out) (H : Heap) (locs : List Loc) (ls : Array Slot), va_P (xsD X) vwCl (wK X kIsKept kIsStale hiLatest hiSize scBytes scTold scLength scFault scAt scNumber piSegmentsNow enKind enX enY enLower enFromX enFromY enToX enToY tiTouching tiLyingAlong tiMeetingPairs tiAlongPairs tiSize evX evY evLower evBundle evCrossingOf evEventOf evLeftEvent evRightEvent evSize evCrossings evSegmentsNow grDegree grEdges grFar grQueue grQueued huX huY huSize huBestX huBestY S Rw) H → va_D (xsF X) (wK X kIsKept kIsStale hiLatest hiSize scBytes scTold scLength scFault scAt scNumber piSegmentsNow enKind enX enY enLower enFromX enFromY enToX enToY tiTouching tiLyingAlong tiMeetingPairs tiAlongPairs tiSize evX evY evLower evBundle evCrossingOf evEventOf evLeftEvent evRightEvent evSize evCrossings evSegmentsNow grDegree grEdges grFar grQueue grQueued huX huY huSize huBestX huBestY S Rw) → va_S (xsF X) s.heap H locs → lv_has ls 5 [] → W p l e { frames := 2, cells := 0, slots := 0, locals := 44 } s m ([.ref (xsA X 8), .int a0, .int a1] : List Value).toArray below meth c H locs 0 0 (MQ below Qq ([.ref (xsA X 8), .int a0, .int a1] : List Value).toArray s 0 0 (xsF X)) (F0 m 39 ls []) := by
    intro hf H locs ls hP hD hS hl
    unfold fX9_distance_J39 at hf
    refine lv_iconst (v := (-1 : Int32)) hx hb dX9_distance_39 (by decide) ?_
    have ho := Option.some.inj hf
    subst ho
    rw [hQq]
    exact xs_iret C hr hlk hP hD hS dX9_distance_40
  replace hf := xsBd_use hf
  obtain ⟨r4, hk40, hf⟩ := hf
  have L4 : ∀ (sg : Int32 × Int32) (rg : (Int32) ⊕ (Unit)), xsWh (fun s4 => fX9_distance_L7 tiTouching tiSize a1 s4.1 s4.2) sg = some rg → (xsSm rg (fun v4 => fX9_distance_J39) = some out → ∀ (H : Heap) (locs : List Loc) (ls : Array Slot), va_P (xsD X) vwCl (wK X kIsKept kIsStale hiLatest hiSize scBytes scTold scLength scFault scAt scNumber piSegmentsNow enKind enX enY enLower enFromX enFromY enToX enToY tiTouching tiLyingAlong tiMeetingPairs tiAlongPairs tiSize evX evY evLower evBundle evCrossingOf evEventOf evLeftEvent evRightEvent evSize evCrossings evSegmentsNow grDegree grEdges grFar grQueue grQueued huX huY huSize huBestX huBestY S Rw) H → va_D (xsF X) (wK X kIsKept kIsStale hiLatest hiSize scBytes scTold scLength scFault scAt scNumber piSegmentsNow enKind enX enY enLower enFromX enFromY enToX enToY tiTouching tiLyingAlong tiMeetingPairs tiAlongPairs tiSize evX evY evLower evBundle evCrossingOf evEventOf evLeftEvent evRightEvent evSize evCrossings evSegmentsNow grDegree grEdges grFar grQueue grQueued huX huY huSize huBestX huBestY S Rw) → va_S (xsF X) s.heap H locs → lv_has ls 5 [(0, .ref (xsA X 8)), (2, .int a1), (3, .int sg.1), (4, .int sg.2)] → W p l e { frames := 2, cells := 0, slots := 0, locals := 44 } s m ([.ref (xsA X 8), .int a0, .int a1] : List Value).toArray below meth c H locs 0 0 (MQ below Qq ([.ref (xsA X 8), .int a0, .int a1] : List Value).toArray s 0 0 (xsF X)) (F0 m 7 ls [])) := by
    refine xsWh_ind ?_
    intro sg r4 u4 hf ih4 hx4 hk4 H locs ls hP hD hS hl
    obtain ⟨y2, y3⟩ := sg
    replace hf : fX9_distance_L7 tiTouching tiSize a1 y2 y3 = some u4 := hf
    replace hl : lv_has ls 5 [(0, .ref (xsA X 8)), (2, .int a1), (3, .int y2), (4, .int y3)] := hl
    replace hP : va_P (xsD X) vwCl (wK X kIsKept kIsStale hiLatest hiSize scBytes scTold scLength scFault scAt scNumber piSegmentsNow enKind enX enY enLower enFromX enFromY enToX enToY tiTouching tiLyingAlong tiMeetingPairs tiAlongPairs tiSize evX evY evLower evBundle evCrossingOf evEventOf evLeftEvent evRightEvent evSize evCrossings evSegmentsNow grDegree grEdges grFar grQueue grQueued huX huY huSize huBestX huBestY S Rw) H := hP
    replace hD : va_D (xsF X) (wK X kIsKept kIsStale hiLatest hiSize scBytes scTold scLength scFault scAt scNumber piSegmentsNow enKind enX enY enLower enFromX enFromY enToX enToY tiTouching tiLyingAlong tiMeetingPairs tiAlongPairs tiSize evX evY evLower evBundle evCrossingOf evEventOf evLeftEvent evRightEvent evSize evCrossings evSegmentsNow grDegree grEdges grFar grQueue grQueued huX huY huSize huBestX huBestY S Rw) := hD
    unfold fX9_distance_L7 at hf
    refine lv_iload hx hb dX9_distance_7 (lv_at hl 3 rfl) ?_
    refine lv_aload_n hx hb dX9_distance_9 rfl (lv_at hl 0 rfl) ?_
    refine xg_X9_25 C hP dX9_distance_10 ?_
    refine lv_icmp_ge (tgt := 39) hx hb dX9_distance_13 (by decide) (fun c11 => ?_) (fun c11 => ?_)
    · replace hf := xsBr_t c11 hf
      have ez := hx4 _ (Option.some.inj hf).symm
      subst ez
      exact K4 hk4 H locs ls hP hD hS (lv_sub hl [] rfl)
    · replace hf := xsBr_f c11 hf
      refine lv_iload_n hx hb dX9_distance_16 rfl (lv_at hl 2 rfl) ?_
      refine lv_iload_n hx hb dX9_distance_17 rfl (lv_at hl 1 rfl) ?_
      replace hf := xsBd_use hf
      obtain ⟨o5, h6, hf⟩ := hf
      refine xs_calli hS (xs_runSN (As := [.int y2, .int a1]) C (mX10_has l  h6) C.2.2.2.2.2.2.2.1.1 w_605 w_105 w_606 hd_X10_has ⟨rfl, rfl, Nat.le_of_ble_eq_true rfl, Nat.le_of_ble_eq_true rfl, Nat.zero_le _, Nat.zero_le _⟩ hP hD hS hl.1 rfl (Nat.le_of_ble_eq_true rfl) dX9_distance_18) (fun H locs hP hD hS => ?_)
      refine lv_if_eq (tgt := 27) hx hb dX9_distance_21 (by decide) (fun c10 => ?_) (fun c10 => ?_)
      · replace hf := xsBr_t c10 hf
        refine lv_aload_n hx hb dX9_distance_27 rfl (lv_at hl 0 rfl) ?_
        refine lv_iload_n hx hb dX9_distance_28 rfl (lv_at hl 2 rfl) ?_
        replace hf := xsBd_use hf
        obtain ⟨o7, h8, hf⟩ := hf
        refine xs_calli hS (xs_runV (As := [.int y2]) C (mX9_grown l  h8) w_682 w_684 w_9 w_111 w_685 hd_X9_grown ⟨rfl, rfl, Nat.le_of_ble_eq_true rfl, Nat.le_of_ble_eq_true rfl, Nat.zero_le _, Nat.zero_le _⟩ hP hD hS lk_X9 rfl hl.1 rfl (Nat.le_of_ble_eq_true rfl) dX9_distance_29) (fun H locs hP hD hS => ?_)
        refine lv_istore_n (lv' := [(3, .int o7), (0, .ref (xsA X 8)), (2, .int a1), (4, .int y3)]) hx hb dX9_distance_32 rfl hl (by decide) rfl (fun ls hl => ?_)
        obtain ⟨x9, ex9⟩ : ∃ y : Int32, y = y3 + (1 : Int32) := ⟨_, rfl⟩
        replace hf := xsLt_use ex9 hf
        refine lv_iinc (v := x9) (lv' := [(4, .int x9), (3, .int o7), (0, .ref (xsA X 8)), (2, .int a1)]) hx hb dX9_distance_33 hl (k := 3) rfl (by rw [ex9]; rfl) (by decide) rfl (fun ls hl => ?_)
        refine lv_goto (tgt := 7) hx hb dX9_distance_36 (by decide) ?_
        exact ih4 _ (Option.some.inj hf).symm hk4 H locs ls hP hD hS (lv_sub hl [2, 3, 1, 0] rfl)
      · replace hf := xsBr_f c10 hf
        refine lv_iload hx hb dX9_distance_24 (lv_at hl 3 rfl) ?_
        have ez := hx4 _ (Option.some.inj hf).symm
        subst ez
        have hf := hk4
        have ho := Option.some.inj hf
        subst ho
        rw [hQq]
        exact xs_iret C hr hlk hP hD hS dX9_distance_26
  exact L4 (x1, (0 : Int32)) r4 hk40 hf H locs ls hP hD hS (lv_sub hl [2, 4, 1, 0] rfl)
set_option maxRecDepth 100000 in
set_option maxHeartbeats 8000000 in
theorem mX6_push (l : Launch) {X : xsX} {kIsKept kIsStale hiLatest hiSize scLength scFault scAt scNumber piSegmentsNow enKind enFromX enFromY enToX enToY tiMeetingPairs tiAlongPairs tiSize evSize evCrossings evSegmentsNow grEdges grQueued huSize huBestX huBestY : Int32} {scBytes scTold tiTouching tiLyingAlong evBundle evCrossingOf evEventOf evLeftEvent evRightEvent grDegree grFar grQueue huX huY : Nat → Int32} {enX enY enLower : Int64} {evX evY evLower : Nat → Int64} {S : Nat → xsV} {Rw : va_W} {a0 : Int32} {out : (Nat → Int32) × Int32} (hf : fX6_push scBytes scLength a0 = some out) : Met l yX6_push (xsWs yX6_push cX6_push 3 none) { frames := 0, cells := 0, slots := 0, locals := 0 } (xsP X (wK X kIsKept kIsStale hiLatest hiSize scBytes scTold scLength scFault scAt scNumber piSegmentsNow enKind enX enY enLower enFromX enFromY enToX enToY tiTouching tiLyingAlong tiMeetingPairs tiAlongPairs tiSize evX evY evLower evBundle evCrossingOf evEventOf evLeftEvent evRightEvent evSize evCrossings evSegmentsNow grDegree grEdges grFar grQueue grQueued huX huY huSize huBestX huBestY S Rw) [.ref (xsA X 3), .int a0]) (xsQv X (wK X kIsKept kIsStale hiLatest hiSize out.1 scTold out.2 scFault scAt scNumber piSegmentsNow enKind enX enY enLower enFromX enFromY enToX enToY tiTouching tiLyingAlong tiMeetingPairs tiAlongPairs tiSize evX evY evLower evBundle evCrossingOf evEventOf evLeftEvent evRightEvent evSize evCrossings evSegmentsNow grDegree grEdges grFar grQueue grQueued huX huY huSize huBestX huBestY S Rw)) 0 0 (xsF X) := by
  refine xs_meth RX6 (by decide) rfl (Nat.le_of_ble_eq_true rfl) ?_
  intro p e s m below meth c ls H locs C hP hD hS hr hlk hl
  have hx := C.1
  have hb := C.2.1
  have hl : lv_has ls 3 [(0, .ref (xsA X 3)), (1, .int a0)] := hl
  obtain ⟨Qq, hQq⟩ : ∃ Qq, Qq = xsQv X (wK X kIsKept kIsStale hiLatest hiSize out.1 scTold out.2 scFault scAt scNumber piSegmentsNow enKind enX enY enLower enFromX enFromY enToX enToY tiTouching tiLyingAlong tiMeetingPairs tiAlongPairs tiSize evX evY evLower evBundle evCrossingOf evEventOf evLeftEvent evRightEvent evSize evCrossings evSegmentsNow grDegree grEdges grFar grQueue grQueued huX huY huSize huBestX huBestY S Rw) := ⟨_, rfl⟩
  rw [← hQq]
  unfold fX6_push at hf
  refine lv_bipush (v := (24 : Int32)) hx hb dX6_push_0 (by decide) ?_
  refine lv_istore_n (lv' := [(2, .int (24 : Int32)), (0, .ref (xsA X 3)), (1, .int a0)]) hx hb dX6_push_2 rfl hl (by decide) rfl (fun ls hl => ?_)
  have K4 : ∀ (y5 : Nat → Int32) (y6 : Int32) (hf : fX6_push_J46 y5 y6 = some out) (H : Heap) (locs : List Loc) (ls : Array Slot), va_P (xsD X) vwCl (wK X kIsKept kIsStale hiLatest hiSize y5 scTold y6 scFault scAt scNumber piSegmentsNow enKind enX enY enLower enFromX enFromY enToX enToY tiTouching tiLyingAlong tiMeetingPairs tiAlongPairs tiSize evX evY evLower evBundle evCrossingOf evEventOf evLeftEvent evRightEvent evSize evCrossings evSegmentsNow grDegree grEdges grFar grQueue grQueued huX huY huSize huBestX huBestY S Rw) H → va_D (xsF X) (wK X kIsKept kIsStale hiLatest hiSize y5 scTold y6 scFault scAt scNumber piSegmentsNow enKind enX enY enLower enFromX enFromY enToX enToY tiTouching tiLyingAlong tiMeetingPairs tiAlongPairs tiSize evX evY evLower evBundle evCrossingOf evEventOf evLeftEvent evRightEvent evSize evCrossings evSegmentsNow grDegree grEdges grFar grQueue grQueued huX huY huSize huBestX huBestY S Rw) → va_S (xsF X) s.heap H locs → lv_has ls 3 [] → W p l e { frames := 0, cells := 0, slots := 0, locals := 0 } s m ([.ref (xsA X 3), .int a0] : List Value).toArray below meth c H locs 0 0 (MQ below Qq ([.ref (xsA X 3), .int a0] : List Value).toArray s 0 0 (xsF X)) (F0 m 46 ls []) := by
    intro y5 y6 hf H locs ls hP hD hS hl
    unfold fX6_push_J46 at hf
    have ho := Option.some.inj hf
    subst ho
    rw [hQq]
    exact xs_vret C hr hlk hP hD hS dX6_push_46
  replace hf := xsBd_use hf
  obtain ⟨r4, hk40, hf⟩ := hf
  have L4 : ∀ (sg : Int32 × (Nat → Int32) × Int32) (rg : (Nat → Int32) × Int32), xsWh (fun s4 => fX6_push_L3 a0 s4.1 s4.2.1 s4.2.2) sg = some rg → (fX6_push_J46 rg.1 rg.2 = some out → ∀ (H : Heap) (locs : List Loc) (ls : Array Slot), va_P (xsD X) vwCl (wK X kIsKept kIsStale hiLatest hiSize sg.2.1 scTold sg.2.2 scFault scAt scNumber piSegmentsNow enKind enX enY enLower enFromX enFromY enToX enToY tiTouching tiLyingAlong tiMeetingPairs tiAlongPairs tiSize evX evY evLower evBundle evCrossingOf evEventOf evLeftEvent evRightEvent evSize evCrossings evSegmentsNow grDegree grEdges grFar grQueue grQueued huX huY huSize huBestX huBestY S Rw) H → va_D (xsF X) (wK X kIsKept kIsStale hiLatest hiSize sg.2.1 scTold sg.2.2 scFault scAt scNumber piSegmentsNow enKind enX enY enLower enFromX enFromY enToX enToY tiTouching tiLyingAlong tiMeetingPairs tiAlongPairs tiSize evX evY evLower evBundle evCrossingOf evEventOf evLeftEvent evRightEvent evSize evCrossings evSegmentsNow grDegree grEdges grFar grQueue grQueued huX huY huSize huBestX huBestY S Rw) → va_S (xsF X) s.heap H locs → lv_has ls 3 [(0, .ref (xsA X 3)), (1, .int a0), (2, .int sg.1)] → W p l e { frames := 0, cells := 0, slots := 0, locals := 0 } s m ([.ref (xsA X 3), .int a0] : List Value).toArray below meth c H locs 0 0 (MQ below Qq ([.ref (xsA X 3), .int a0] : List Value).toArray s 0 0 (xsF X)) (F0 m 3 ls [])) := by
    refine xsWh_ind ?_
    intro sg r4 u4 hf ih4 hx4 hk4 H locs ls hP hD hS hl
    obtain ⟨y1, y2, y3⟩ := sg
    replace hf : fX6_push_L3 a0 y1 y2 y3 = some u4 := hf
    replace hl : lv_has ls 3 [(0, .ref (xsA X 3)), (1, .int a0), (2, .int y1)] := hl
    replace hP : va_P (xsD X) vwCl (wK X kIsKept kIsStale hiLatest hiSize y2 scTold y3 scFault scAt scNumber piSegmentsNow enKind enX enY enLower enFromX enFromY enToX enToY tiTouching tiLyingAlong tiMeetingPairs tiAlongPairs tiSize evX evY evLower evBundle evCrossingOf evEventOf evLeftEvent evRightEvent evSize evCrossings evSegmentsNow grDegree grEdges grFar grQueue grQueued huX huY huSize huBestX huBestY S Rw) H := hP
    replace hD : va_D (xsF X) (wK X kIsKept kIsStale hiLatest hiSize y2 scTold y3 scFault scAt scNumber piSegmentsNow enKind enX enY enLower enFromX enFromY enToX enToY tiTouching tiLyingAlong tiMeetingPairs tiAlongPairs tiSize evX evY evLower evBundle evCrossingOf evEventOf evLeftEvent evRightEvent evSize evCrossings evSegmentsNow grDegree grEdges grFar grQueue grQueued huX huY huSize huBestX huBestY S Rw) := hD
    unfold fX6_push_L3 at hf
    refine lv_iload_n hx hb dX6_push_3 rfl (lv_at hl 2 rfl) ?_
    refine lv_if_lt (tgt := 46) hx hb dX6_push_4 (by decide) (fun c17 => ?_) (fun c17 => ?_)
    · replace hf := xsBr_t c17 hf
      have ez := hx4 _ (Option.some.inj hf).symm
      subst ez
      exact K4 y2 y3 hk4 H locs ls hP hD hS (lv_sub hl [] rfl)
    · replace hf := xsBr_f c17 hf
      refine lv_aload_n hx hb dX6_push_7 rfl (lv_at hl 0 rfl) ?_
      refine xg_X6_26 C hP dX6_push_8 ?_
      refine lv_sipush (v := (400 : Int32)) hx hb dX6_push_11 (by decide) ?_
      have K12 : ∀ (y7 : Nat → Int32) (y8 : Int32) (hf : fX6_push_J40 y1 y7 y8 = some u4) (H : Heap) (locs : List Loc) (ls : Array Slot), va_P (xsD X) vwCl (wK X kIsKept kIsStale hiLatest hiSize y7 scTold y8 scFault scAt scNumber piSegmentsNow enKind enX enY enLower enFromX enFromY enToX enToY tiTouching tiLyingAlong tiMeetingPairs tiAlongPairs tiSize evX evY evLower evBundle evCrossingOf evEventOf evLeftEvent evRightEvent evSize evCrossings evSegmentsNow grDegree grEdges grFar grQueue grQueued huX huY huSize huBestX huBestY S Rw) H → va_D (xsF X) (wK X kIsKept kIsStale hiLatest hiSize y7 scTold y8 scFault scAt scNumber piSegmentsNow enKind enX enY enLower enFromX enFromY enToX enToY tiTouching tiLyingAlong tiMeetingPairs tiAlongPairs tiSize evX evY evLower evBundle evCrossingOf evEventOf evLeftEvent evRightEvent evSize evCrossings evSegmentsNow grDegree grEdges grFar grQueue grQueued huX huY huSize huBestX huBestY S Rw) → va_S (xsF X) s.heap H locs → lv_has ls 3 [(0, .ref (xsA X 3)), (1, .int a0), (2, .int y1)] → W p l e { frames := 0, cells := 0, slots := 0, locals := 0 } s m ([.ref (xsA X 3), .int a0] : List Value).toArray below meth c H locs 0 0 (MQ below Qq ([.ref (xsA X 3), .int a0] : List Value).toArray s 0 0 (xsF X)) (F0 m 40 ls []) := by
        intro y7 y8 hf H locs ls hP hD hS hl
        unfold fX6_push_J40 at hf
        obtain ⟨x9, ex9⟩ : ∃ y : Int32, y = y1 + (-8 : Int32) := ⟨_, rfl⟩
        replace hf := xsLt_use ex9 hf
        refine lv_iinc (v := x9) (lv' := [(2, .int x9), (0, .ref (xsA X 3)), (1, .int a0)]) hx hb dX6_push_40 hl (k := 2) rfl (by rw [ex9]; rfl) (by decide) rfl (fun ls hl => ?_)
        refine lv_goto (tgt := 3) hx hb dX6_push_43 (by decide) ?_
        exact ih4 _ (Option.some.inj hf).symm hk4 H locs ls hP hD hS (lv_sub hl [1, 2, 0] rfl)
      replace hf := xsBd_use hf
      obtain ⟨v10, hf, hk11⟩ := hf
      refine lv_icmp_ge (tgt := 40) hx hb dX6_push_14 (by decide) (fun c16 => ?_) (fun c16 => ?_)
      · replace hf := xsBr_t c16 hf
        have ev := Option.some.inj hf
        subst ev
        exact K12 y2 y3 hk11 H locs ls hP hD hS (lv_sub hl [0, 1, 2] rfl)
      · replace hf := xsBr_f c16 hf
        refine lv_aload_n hx hb dX6_push_17 rfl (lv_at hl 0 rfl) ?_
        refine xg_X6_9 C hP dX6_push_18 ?_
        refine lv_aload_n hx hb dX6_push_21 rfl (lv_at hl 0 rfl) ?_
        refine xg_X6_26 C hP dX6_push_22 ?_
        refine lv_iload_n hx hb dX6_push_25 rfl (lv_at hl 1 rfl) ?_
        refine lv_iload_n hx hb dX6_push_26 rfl (lv_at hl 2 rfl) ?_
        refine lv_ishr hx hb dX6_push_27 ?_
        refine lv_i2b hx hb dX6_push_28 rfl ?_
        replace hf := xsCk_use hf
        obtain ⟨h13, hf⟩ := hf
        refine xs_scBytes C hP hD hS h13 dX6_push_29 (fun f14 ef14 H locs hP hD hS => ?_)
        replace hf := xsLt_use ef14 hf
        refine lv_aload_n hx hb dX6_push_30 rfl (lv_at hl 0 rfl) ?_
        refine lv_dup hx hb dX6_push_31 rfl ?_
        refine xg_X6_26 C hP dX6_push_32 ?_
        refine lv_iconst (v := (1 : Int32)) hx hb dX6_push_35 (by decide) ?_
        refine lv_iadd hx hb dX6_push_36 ?_
        refine lv_topi (fun x15 ex15 => ?_)
        replace hf := xsLt_use ex15 hf
        refine xp_X6_26 C hP hD hS dX6_push_37 (fun H locs hP hD hS => ?_)
        have ev := Option.some.inj hf
        subst ev
        exact K12 f14 x15 hk11 H locs ls hP hD hS (lv_sub hl [0, 1, 2] rfl)
  exact L4 ((24 : Int32), scBytes, scLength) r4 hk40 hf H locs ls hP hD hS (lv_sub hl [1, 2, 0] rfl)
