set_option maxRecDepth 100000 in
set_option maxHeartbeats 8000000 in
theorem mX7_isFull (l : Launch) {X : xsX} {kIsKept kIsStale hiLatest hiSize scLength scFault scAt scNumber piSegmentsNow enKind enFromX enFromY enToX enToY tiMeetingPairs tiAlongPairs tiSize evSize evCrossings evSegmentsNow grEdges grQueued huSize huBestX huBestY : Int32} {scBytes scTold tiTouching tiLyingAlong evBundle evCrossingOf evEventOf evLeftEvent evRightEvent grDegree grFar grQueue huX huY : Nat → Int32} {enX enY enLower : Int64} {evX evY evLower : Nat → Int64} {S : Nat → xsV} {Rw : va_W} {js : Nat} (hjs : js < 12) {sLx sLy sRx sRy sTi : Nat → Int32} {sSz : Int32} (hs_s : S js = (sLx, sLy, sRx, sRy, sTi, sSz)) {out : Int32} (hf : fX7_isFull sSz = some out) : Met l yX7_isFull (xsWs yX7_isFull cX7_isFull 1 (some .boolean)) { frames := 0, cells := 0, slots := 0, locals := 0 } (xsP X (wK X kIsKept kIsStale hiLatest hiSize scBytes scTold scLength scFault scAt scNumber piSegmentsNow enKind enX enY enLower enFromX enFromY enToX enToY tiTouching tiLyingAlong tiMeetingPairs tiAlongPairs tiSize evX evY evLower evBundle evCrossingOf evEventOf evLeftEvent evRightEvent evSize evCrossings evSegmentsNow grDegree grEdges grFar grQueue grQueued huX huY huSize huBestX huBestY S Rw) [.ref (xsA X (27 + 6 * js))]) (xsQi X out (wK X kIsKept kIsStale hiLatest hiSize scBytes scTold scLength scFault scAt scNumber piSegmentsNow enKind enX enY enLower enFromX enFromY enToX enToY tiTouching tiLyingAlong tiMeetingPairs tiAlongPairs tiSize evX evY evLower evBundle evCrossingOf evEventOf evLeftEvent evRightEvent evSize evCrossings evSegmentsNow grDegree grEdges grFar grQueue grQueued huX huY huSize huBestX huBestY S Rw)) 0 0 (xsF X) := by
  refine xs_meth RX7 (by decide) rfl (Nat.le_of_ble_eq_true rfl) ?_
  intro p e s m below meth c ls H locs C hP hD hS hr hlk hl
  have hx := C.1
  have hb := C.2.1
  have hl : lv_has ls 1 [(0, .ref (xsA X (27 + 6 * js)))] := hl
  obtain ⟨Qq, hQq⟩ : ∃ Qq, Qq = xsQi X out (wK X kIsKept kIsStale hiLatest hiSize scBytes scTold scLength scFault scAt scNumber piSegmentsNow enKind enX enY enLower enFromX enFromY enToX enToY tiTouching tiLyingAlong tiMeetingPairs tiAlongPairs tiSize evX evY evLower evBundle evCrossingOf evEventOf evLeftEvent evRightEvent evSize evCrossings evSegmentsNow grDegree grEdges grFar grQueue grQueued huX huY huSize huBestX huBestY S Rw) := ⟨_, rfl⟩
  rw [← hQq]
  unfold fX7_isFull at hf
  refine lv_aload_n hx hb dX7_isFull_0 rfl (lv_at hl 0 rfl) ?_
  refine xg_X7_27 (j := js) hjs hs_s C hP dX7_isFull_1 ?_
  refine lv_bipush (v := (24 : Int32)) hx hb dX7_isFull_4 (by decide) ?_
  refine lv_icmp_lt (tgt := 13) hx hb dX7_isFull_6 (by decide) (fun c1 => ?_) (fun c1 => ?_)
  · replace hf := xsBr_t c1 hf
    refine lv_iconst (v := (0 : Int32)) hx hb dX7_isFull_13 (by decide) ?_
    have ho := Option.some.inj hf
    subst ho
    rw [hQq]
    exact xs_zret C hr hlk xsB_0 hP hD hS dX7_isFull_14
  · replace hf := xsBr_f c1 hf
    refine lv_iconst (v := (1 : Int32)) hx hb dX7_isFull_9 (by decide) ?_
    refine lv_goto (tgt := 14) hx hb dX7_isFull_10 (by decide) ?_
    have ho := Option.some.inj hf
    subst ho
    rw [hQq]
    exact xs_zret C hr hlk xsB_1 hP hD hS dX7_isFull_14
set_option maxRecDepth 100000 in
set_option maxHeartbeats 8000000 in
theorem mX7_put (l : Launch) {X : xsX} {kIsKept kIsStale hiLatest hiSize scLength scFault scAt scNumber piSegmentsNow enKind enFromX enFromY enToX enToY tiMeetingPairs tiAlongPairs tiSize evSize evCrossings evSegmentsNow grEdges grQueued huSize huBestX huBestY : Int32} {scBytes scTold tiTouching tiLyingAlong evBundle evCrossingOf evEventOf evLeftEvent evRightEvent grDegree grFar grQueue huX huY : Nat → Int32} {enX enY enLower : Int64} {evX evY evLower : Nat → Int64} {S : Nat → xsV} {Rw : va_W} {js : Nat} (hjs : js < 12) {sLx sLy sRx sRy sTi : Nat → Int32} {sSz : Int32} (hs_s : S js = (sLx, sLy, sRx, sRy, sTi, sSz)) {a0 : Int32} {a1 : Int32} {a2 : Int32} {a3 : Int32} {a4 : Int32} {out : (Nat → Int32) × (Nat → Int32) × (Nat → Int32) × (Nat → Int32)} (hf : fX7_put sLx sLy sRx sRy a0 a1 a2 a3 a4 = some out) : Met l yX7_put (xsWs yX7_put cX7_put 7 none) { frames := 0, cells := 0, slots := 0, locals := 0 } (xsP X (wK X kIsKept kIsStale hiLatest hiSize scBytes scTold scLength scFault scAt scNumber piSegmentsNow enKind enX enY enLower enFromX enFromY enToX enToY tiTouching tiLyingAlong tiMeetingPairs tiAlongPairs tiSize evX evY evLower evBundle evCrossingOf evEventOf evLeftEvent evRightEvent evSize evCrossings evSegmentsNow grDegree grEdges grFar grQueue grQueued huX huY huSize huBestX huBestY S Rw) [.ref (xsA X (27 + 6 * js)), .int a0, .int a1, .int a2, .int a3, .int a4]) (xsQv X (wK X kIsKept kIsStale hiLatest hiSize scBytes scTold scLength scFault scAt scNumber piSegmentsNow enKind enX enY enLower enFromX enFromY enToX enToY tiTouching tiLyingAlong tiMeetingPairs tiAlongPairs tiSize evX evY evLower evBundle evCrossingOf evEventOf evLeftEvent evRightEvent evSize evCrossings evSegmentsNow grDegree grEdges grFar grQueue grQueued huX huY huSize huBestX huBestY (xsSu S js (out.1, out.2.1, out.2.2.1, out.2.2.2, sTi, sSz)) Rw)) 0 0 (xsF X) := by
  refine xs_meth RX7 (by decide) rfl (Nat.le_of_ble_eq_true rfl) ?_
  intro p e s m below meth c ls H locs C hP hD hS hr hlk hl
  have hx := C.1
  have hb := C.2.1
  have hl : lv_has ls 7 [(0, .ref (xsA X (27 + 6 * js))), (1, .int a0), (2, .int a1), (3, .int a2), (4, .int a3), (5, .int a4)] := hl
  obtain ⟨Qq, hQq⟩ : ∃ Qq, Qq = xsQv X (wK X kIsKept kIsStale hiLatest hiSize scBytes scTold scLength scFault scAt scNumber piSegmentsNow enKind enX enY enLower enFromX enFromY enToX enToY tiTouching tiLyingAlong tiMeetingPairs tiAlongPairs tiSize evX evY evLower evBundle evCrossingOf evEventOf evLeftEvent evRightEvent evSize evCrossings evSegmentsNow grDegree grEdges grFar grQueue grQueued huX huY huSize huBestX huBestY (xsSu S js (out.1, out.2.1, out.2.2.1, out.2.2.2, sTi, sSz)) Rw) := ⟨_, rfl⟩
  rw [← hQq]
  unfold fX7_put at hf
  refine lv_iload_n hx hb dX7_put_0 rfl (lv_at hl 2 rfl) ?_
  refine lv_iload hx hb dX7_put_1 (lv_at hl 4 rfl) ?_
  have K32 : ∀ (y1 : Int32) (hf : fX7_put_J23 sLx sLy sRx sRy a0 a1 a2 a3 a4 y1 = some out) (H : Heap) (locs : List Loc) (ls : Array Slot), va_P (xsD X) vwCl (wK X kIsKept kIsStale hiLatest hiSize scBytes scTold scLength scFault scAt scNumber piSegmentsNow enKind enX enY enLower enFromX enFromY enToX enToY tiTouching tiLyingAlong tiMeetingPairs tiAlongPairs tiSize evX evY evLower evBundle evCrossingOf evEventOf evLeftEvent evRightEvent evSize evCrossings evSegmentsNow grDegree grEdges grFar grQueue grQueued huX huY huSize huBestX huBestY S Rw) H → va_D (xsF X) (wK X kIsKept kIsStale hiLatest hiSize scBytes scTold scLength scFault scAt scNumber piSegmentsNow enKind enX enY enLower enFromX enFromY enToX enToY tiTouching tiLyingAlong tiMeetingPairs tiAlongPairs tiSize evX evY evLower evBundle evCrossingOf evEventOf evLeftEvent evRightEvent evSize evCrossings evSegmentsNow grDegree grEdges grFar grQueue grQueued huX huY huSize huBestX huBestY S Rw) → va_S (xsF X) s.heap H locs → lv_has ls 7 [(0, .ref (xsA X (27 + 6 * js))), (1, .int a0), (2, .int a1), (3, .int a2), (4, .int a3), (5, .int a4)] → W p l e { frames := 0, cells := 0, slots := 0, locals := 0 } s m ([.ref (xsA X (27 + 6 * js)), .int a0, .int a1, .int a2, .int a3, .int a4] : List Value).toArray below meth c H locs 0 0 (MQ below Qq ([.ref (xsA X (27 + 6 * js)), .int a0, .int a1, .int a2, .int a3, .int a4] : List Value).toArray s 0 0 (xsF X)) (F0 m 23 ls [.int y1]) := by
    intro y1 hf H locs ls hP hD hS hl
    unfold fX7_put_J23 at hf
    refine lv_istore (lv' := [(6, .int y1), (0, .ref (xsA X (27 + 6 * js))), (1, .int a0), (2, .int a1), (3, .int a2), (4, .int a3), (5, .int a4)]) hx hb dX7_put_23 hl (by decide) rfl (fun ls hl => ?_)
    refine lv_aload_n hx hb dX7_put_25 rfl (lv_at hl 1 rfl) ?_
    refine xg_X7_9 (j := js) hjs C hP dX7_put_26 ?_
    refine lv_iload_n hx hb dX7_put_29 rfl (lv_at hl 2 rfl) ?_
    refine lv_iload hx hb dX7_put_30 (lv_at hl 0 rfl) ?_
    have K28 : ∀ (y2 : Int32) (hf : fX7_put_J41 sLx sLy sRx sRy a0 a1 a2 a3 a4 y1 y2 = some out) (H : Heap) (locs : List Loc) (ls : Array Slot), va_P (xsD X) vwCl (wK X kIsKept kIsStale hiLatest hiSize scBytes scTold scLength scFault scAt scNumber piSegmentsNow enKind enX enY enLower enFromX enFromY enToX enToY tiTouching tiLyingAlong tiMeetingPairs tiAlongPairs tiSize evX evY evLower evBundle evCrossingOf evEventOf evLeftEvent evRightEvent evSize evCrossings evSegmentsNow grDegree grEdges grFar grQueue grQueued huX huY huSize huBestX huBestY S Rw) H → va_D (xsF X) (wK X kIsKept kIsStale hiLatest hiSize scBytes scTold scLength scFault scAt scNumber piSegmentsNow enKind enX enY enLower enFromX enFromY enToX enToY tiTouching tiLyingAlong tiMeetingPairs tiAlongPairs tiSize evX evY evLower evBundle evCrossingOf evEventOf evLeftEvent evRightEvent evSize evCrossings evSegmentsNow grDegree grEdges grFar grQueue grQueued huX huY huSize huBestX huBestY S Rw) → va_S (xsF X) s.heap H locs → lv_has ls 7 [(0, .ref (xsA X (27 + 6 * js))), (1, .int a0), (2, .int a1), (3, .int a2), (4, .int a3), (5, .int a4), (6, .int y1)] → W p l e { frames := 0, cells := 0, slots := 0, locals := 0 } s m ([.ref (xsA X (27 + 6 * js)), .int a0, .int a1, .int a2, .int a3, .int a4] : List Value).toArray below meth c H locs 0 0 (MQ below Qq ([.ref (xsA X (27 + 6 * js)), .int a0, .int a1, .int a2, .int a3, .int a4] : List Value).toArray s 0 0 (xsF X)) (F0 m 41 ls [.int y2, .int a0, .ref (xsA X (28 + 6 * js))]) := by
      intro y2 hf H locs ls hP hD hS hl
      unfold fX7_put_J41 at hf
      replace hf := xsCk_use hf
      obtain ⟨h3, hf⟩ := hf
      refine xs_s0 (j := js) hjs hs_s (fun f' => (xsSu S js (f', sLy, sRx, sRy, sTi, sSz))) (fun f' => rfl) C hP hD hS h3 dX7_put_41 (fun f4 ef4 H locs hP hD hS hz => ?_)
      clear hz
      replace hf := xsLt_use ef4 hf
      refine lv_aload_n hx hb dX7_put_42 rfl (lv_at hl 0 rfl) ?_
      refine xg_X7_15 (j := js) hjs C hP dX7_put_43 ?_
      refine lv_iload_n hx hb dX7_put_46 rfl (lv_at hl 1 rfl) ?_
      refine lv_iload hx hb dX7_put_47 (lv_at hl 6 rfl) ?_
      have K24 : ∀ (y5 : Int32) (hf : fX7_put_J58 sLy sRx sRy a0 a1 a2 a3 a4 y1 f4 y5 = some out) (H : Heap) (locs : List Loc) (ls : Array Slot), va_P (xsD X) vwCl (wK X kIsKept kIsStale hiLatest hiSize scBytes scTold scLength scFault scAt scNumber piSegmentsNow enKind enX enY enLower enFromX enFromY enToX enToY tiTouching tiLyingAlong tiMeetingPairs tiAlongPairs tiSize evX evY evLower evBundle evCrossingOf evEventOf evLeftEvent evRightEvent evSize evCrossings evSegmentsNow grDegree grEdges grFar grQueue grQueued huX huY huSize huBestX huBestY (xsSu S js (f4, sLy, sRx, sRy, sTi, sSz)) Rw) H → va_D (xsF X) (wK X kIsKept kIsStale hiLatest hiSize scBytes scTold scLength scFault scAt scNumber piSegmentsNow enKind enX enY enLower enFromX enFromY enToX enToY tiTouching tiLyingAlong tiMeetingPairs tiAlongPairs tiSize evX evY evLower evBundle evCrossingOf evEventOf evLeftEvent evRightEvent evSize evCrossings evSegmentsNow grDegree grEdges grFar grQueue grQueued huX huY huSize huBestX huBestY (xsSu S js (f4, sLy, sRx, sRy, sTi, sSz)) Rw) → va_S (xsF X) s.heap H locs → lv_has ls 7 [(0, .ref (xsA X (27 + 6 * js))), (1, .int a0), (2, .int a1), (3, .int a2), (4, .int a3), (5, .int a4), (6, .int y1)] → W p l e { frames := 0, cells := 0, slots := 0, locals := 0 } s m ([.ref (xsA X (27 + 6 * js)), .int a0, .int a1, .int a2, .int a3, .int a4] : List Value).toArray below meth c H locs 0 0 (MQ below Qq ([.ref (xsA X (27 + 6 * js)), .int a0, .int a1, .int a2, .int a3, .int a4] : List Value).toArray s 0 0 (xsF X)) (F0 m 58 ls [.int y5, .int a0, .ref (xsA X (29 + 6 * js))]) := by
        intro y5 hf H locs ls hP hD hS hl
        unfold fX7_put_J58 at hf
        replace hf := xsCk_use hf
        obtain ⟨h6, hf⟩ := hf
        refine xs_s1 (j := js) hjs (xsSu_eq _ _ _) (fun f' => (xsSu S js (f4, f', sRx, sRy, sTi, sSz))) (fun f' => (xsSu_up _ _ _ _)) C hP hD hS h6 dX7_put_58 (fun f7 ef7 H locs hP hD hS hz => ?_)
        clear hz
        replace hf := xsLt_use ef7 hf
        refine lv_aload_n hx hb dX7_put_59 rfl (lv_at hl 0 rfl) ?_
        refine xg_X7_18 (j := js) hjs C hP dX7_put_60 ?_
        refine lv_iload_n hx hb dX7_put_63 rfl (lv_at hl 1 rfl) ?_
        refine lv_iload hx hb dX7_put_64 (lv_at hl 6 rfl) ?_
        have K20 : ∀ (y8 : Int32) (hf : fX7_put_J75 sRx sRy a0 a2 a4 y1 f4 f7 y8 = some out) (H : Heap) (locs : List Loc) (ls : Array Slot), va_P (xsD X) vwCl (wK X kIsKept kIsStale hiLatest hiSize scBytes scTold scLength scFault scAt scNumber piSegmentsNow enKind enX enY enLower enFromX enFromY enToX enToY tiTouching tiLyingAlong tiMeetingPairs tiAlongPairs tiSize evX evY evLower evBundle evCrossingOf evEventOf evLeftEvent evRightEvent evSize evCrossings evSegmentsNow grDegree grEdges grFar grQueue grQueued huX huY huSize huBestX huBestY (xsSu S js (f4, f7, sRx, sRy, sTi, sSz)) Rw) H → va_D (xsF X) (wK X kIsKept kIsStale hiLatest hiSize scBytes scTold scLength scFault scAt scNumber piSegmentsNow enKind enX enY enLower enFromX enFromY enToX enToY tiTouching tiLyingAlong tiMeetingPairs tiAlongPairs tiSize evX evY evLower evBundle evCrossingOf evEventOf evLeftEvent evRightEvent evSize evCrossings evSegmentsNow grDegree grEdges grFar grQueue grQueued huX huY huSize huBestX huBestY (xsSu S js (f4, f7, sRx, sRy, sTi, sSz)) Rw) → va_S (xsF X) s.heap H locs → lv_has ls 7 [(0, .ref (xsA X (27 + 6 * js))), (1, .int a0), (3, .int a2), (5, .int a4), (6, .int y1)] → W p l e { frames := 0, cells := 0, slots := 0, locals := 0 } s m ([.ref (xsA X (27 + 6 * js)), .int a0, .int a1, .int a2, .int a3, .int a4] : List Value).toArray below meth c H locs 0 0 (MQ below Qq ([.ref (xsA X (27 + 6 * js)), .int a0, .int a1, .int a2, .int a3, .int a4] : List Value).toArray s 0 0 (xsF X)) (F0 m 75 ls [.int y8, .int a0, .ref (xsA X (30 + 6 * js))]) := by
          intro y8 hf H locs ls hP hD hS hl
          unfold fX7_put_J75 at hf
          replace hf := xsCk_use hf
          obtain ⟨h9, hf⟩ := hf
          refine xs_s2 (j := js) hjs (xsSu_eq _ _ _) (fun f' => (xsSu S js (f4, f7, f', sRy, sTi, sSz))) (fun f' => (xsSu_up _ _ _ _)) C hP hD hS h9 dX7_put_75 (fun f10 ef10 H locs hP hD hS hz => ?_)
          clear hz
          replace hf := xsLt_use ef10 hf
          refine lv_aload_n hx hb dX7_put_76 rfl (lv_at hl 0 rfl) ?_
          refine xg_X7_21 (j := js) hjs C hP dX7_put_77 ?_
          refine lv_iload_n hx hb dX7_put_80 rfl (lv_at hl 1 rfl) ?_
          refine lv_iload hx hb dX7_put_81 (lv_at hl 4 rfl) ?_
          have K16 : ∀ (y11 : Int32) (hf : fX7_put_J92 sRy a0 f4 f7 f10 y11 = some out) (H : Heap) (locs : List Loc) (ls : Array Slot), va_P (xsD X) vwCl (wK X kIsKept kIsStale hiLatest hiSize scBytes scTold scLength scFault scAt scNumber piSegmentsNow enKind enX enY enLower enFromX enFromY enToX enToY tiTouching tiLyingAlong tiMeetingPairs tiAlongPairs tiSize evX evY evLower evBundle evCrossingOf evEventOf evLeftEvent evRightEvent evSize evCrossings evSegmentsNow grDegree grEdges grFar grQueue grQueued huX huY huSize huBestX huBestY (xsSu S js (f4, f7, f10, sRy, sTi, sSz)) Rw) H → va_D (xsF X) (wK X kIsKept kIsStale hiLatest hiSize scBytes scTold scLength scFault scAt scNumber piSegmentsNow enKind enX enY enLower enFromX enFromY enToX enToY tiTouching tiLyingAlong tiMeetingPairs tiAlongPairs tiSize evX evY evLower evBundle evCrossingOf evEventOf evLeftEvent evRightEvent evSize evCrossings evSegmentsNow grDegree grEdges grFar grQueue grQueued huX huY huSize huBestX huBestY (xsSu S js (f4, f7, f10, sRy, sTi, sSz)) Rw) → va_S (xsF X) s.heap H locs → lv_has ls 7 [] → W p l e { frames := 0, cells := 0, slots := 0, locals := 0 } s m ([.ref (xsA X (27 + 6 * js)), .int a0, .int a1, .int a2, .int a3, .int a4] : List Value).toArray below meth c H locs 0 0 (MQ below Qq ([.ref (xsA X (27 + 6 * js)), .int a0, .int a1, .int a2, .int a3, .int a4] : List Value).toArray s 0 0 (xsF X)) (F0 m 92 ls [.int y11, .int a0, .ref (xsA X (31 + 6 * js))]) := by
            intro y11 hf H locs ls hP hD hS hl
            unfold fX7_put_J92 at hf
            replace hf := xsCk_use hf
            obtain ⟨h12, hf⟩ := hf
            refine xs_s3 (j := js) hjs (xsSu_eq _ _ _) (fun f' => (xsSu S js (f4, f7, f10, f', sTi, sSz))) (fun f' => (xsSu_up _ _ _ _)) C hP hD hS h12 dX7_put_92 (fun f13 ef13 H locs hP hD hS hz => ?_)
            clear hz
            replace hf := xsLt_use ef13 hf
            have ho := Option.some.inj hf
            subst ho
            rw [hQq]
            exact xs_vret C hr hlk hP hD hS dX7_put_93
          replace hf := xsBd_use hf
          obtain ⟨v14, hf, hk15⟩ := hf
          refine lv_if_eq (tgt := 91) hx hb dX7_put_83 (by decide) (fun c17 => ?_) (fun c17 => ?_)
          · replace hf := xsBr_t c17 hf
            refine lv_iload_n hx hb dX7_put_91 rfl (lv_at hl 2 rfl) ?_
            have ev := Option.some.inj hf
            subst ev
            exact K16 a2 hk15 H locs ls hP hD hS (lv_sub hl [] rfl)
          · replace hf := xsBr_f c17 hf
            refine lv_iload hx hb dX7_put_86 (lv_at hl 3 rfl) ?_
            refine lv_goto (tgt := 92) hx hb dX7_put_88 (by decide) ?_
            have ev := Option.some.inj hf
            subst ev
            exact K16 a4 hk15 H locs ls hP hD hS (lv_sub hl [] rfl)
        replace hf := xsBd_use hf
        obtain ⟨v18, hf, hk19⟩ := hf
        refine lv_if_eq (tgt := 74) hx hb dX7_put_66 (by decide) (fun c21 => ?_) (fun c21 => ?_)
        · replace hf := xsBr_t c21 hf
          refine lv_iload_n hx hb dX7_put_74 rfl (lv_at hl 2 rfl) ?_
          have ev := Option.some.inj hf
          subst ev
          exact K20 a1 hk19 H locs ls hP hD hS (lv_sub hl [0, 1, 3, 5, 6] rfl)
        · replace hf := xsBr_f c21 hf
          refine lv_iload hx hb dX7_put_69 (lv_at hl 4 rfl) ?_
          refine lv_goto (tgt := 75) hx hb dX7_put_71 (by decide) ?_
          have ev := Option.some.inj hf
          subst ev
          exact K20 a3 hk19 H locs ls hP hD hS (lv_sub hl [0, 1, 3, 5, 6] rfl)
      replace hf := xsBd_use hf
      obtain ⟨v22, hf, hk23⟩ := hf
      refine lv_if_eq (tgt := 56) hx hb dX7_put_49 (by decide) (fun c25 => ?_) (fun c25 => ?_)
      · replace hf := xsBr_t c25 hf
        refine lv_iload hx hb dX7_put_56 (lv_at hl 5 rfl) ?_
        have ev := Option.some.inj hf
        subst ev
        exact K24 a4 hk23 H locs ls hP hD hS (lv_sub hl [0, 1, 2, 3, 4, 5, 6] rfl)
      · replace hf := xsBr_f c25 hf
        refine lv_iload_n hx hb dX7_put_52 rfl (lv_at hl 3 rfl) ?_
        refine lv_goto (tgt := 58) hx hb dX7_put_53 (by decide) ?_
        have ev := Option.some.inj hf
        subst ev
        exact K24 a2 hk23 H locs ls hP hD hS (lv_sub hl [0, 1, 2, 3, 4, 5, 6] rfl)
    replace hf := xsBd_use hf
    obtain ⟨v26, hf, hk27⟩ := hf
    refine lv_if_eq (tgt := 39) hx hb dX7_put_32 (by decide) (fun c29 => ?_) (fun c29 => ?_)
    · replace hf := xsBr_t c29 hf
      refine lv_iload hx hb dX7_put_39 (lv_at hl 5 rfl) ?_
      have ev := Option.some.inj hf
      subst ev
      exact K28 a3 hk27 H locs ls hP hD hS (lv_sub hl [1, 2, 3, 4, 5, 6, 0] rfl)
    · replace hf := xsBr_f c29 hf
      refine lv_iload_n hx hb dX7_put_35 rfl (lv_at hl 3 rfl) ?_
      refine lv_goto (tgt := 41) hx hb dX7_put_36 (by decide) ?_
      have ev := Option.some.inj hf
      subst ev
      exact K28 a1 hk27 H locs ls hP hD hS (lv_sub hl [1, 2, 3, 4, 5, 6, 0] rfl)
  replace hf := xsBd_use hf
  obtain ⟨v30, hf, hk31⟩ := hf
  refine lv_icmp_lt (tgt := 18) hx hb dX7_put_3 (by decide) (fun c35 => ?_) (fun c35 => ?_)
  · replace hf := xsBr_t c35 hf
    refine lv_iconst (v := (1 : Int32)) hx hb dX7_put_18 (by decide) ?_
    refine lv_goto (tgt := 23) hx hb dX7_put_19 (by decide) ?_
    have ev := Option.some.inj hf
    subst ev
    exact K32 (1 : Int32) hk31 H locs ls hP hD hS (lv_sub hl [0, 1, 2, 3, 4, 5] rfl)
  · replace hf := xsBr_f c35 hf
    refine lv_iload_n hx hb dX7_put_6 rfl (lv_at hl 2 rfl) ?_
    refine lv_iload hx hb dX7_put_7 (lv_at hl 4 rfl) ?_
    refine lv_icmp_ne (tgt := 22) hx hb dX7_put_9 (by decide) (fun c34 => ?_) (fun c34 => ?_)
    · replace hf := xsBr_f c34 hf
      refine lv_iconst (v := (0 : Int32)) hx hb dX7_put_22 (by decide) ?_
      have ev := Option.some.inj hf
      subst ev
      exact K32 (0 : Int32) hk31 H locs ls hP hD hS (lv_sub hl [0, 1, 2, 3, 4, 5] rfl)
    · replace hf := xsBr_t c34 hf
      refine lv_iload_n hx hb dX7_put_12 rfl (lv_at hl 3 rfl) ?_
      refine lv_iload hx hb dX7_put_13 (lv_at hl 5 rfl) ?_
      refine lv_icmp_gt (tgt := 22) hx hb dX7_put_15 (by decide) (fun c33 => ?_) (fun c33 => ?_)
      · replace hf := xsBr_t c33 hf
        refine lv_iconst (v := (0 : Int32)) hx hb dX7_put_22 (by decide) ?_
        have ev := Option.some.inj hf
        subst ev
        exact K32 (0 : Int32) hk31 H locs ls hP hD hS (lv_sub hl [0, 1, 2, 3, 4, 5] rfl)
      · replace hf := xsBr_f c33 hf
        refine lv_iconst (v := (1 : Int32)) hx hb dX7_put_18 (by decide) ?_
        refine lv_goto (tgt := 23) hx hb dX7_put_19 (by decide) ?_
        have ev := Option.some.inj hf
        subst ev
        exact K32 (1 : Int32) hk31 H locs ls hP hD hS (lv_sub hl [0, 1, 2, 3, 4, 5] rfl)
set_option maxRecDepth 100000 in
set_option maxHeartbeats 8000000 in
theorem mX7_append (l : Launch) {X : xsX} {kIsKept kIsStale hiLatest hiSize scLength scFault scAt scNumber piSegmentsNow enKind enFromX enFromY enToX enToY tiMeetingPairs tiAlongPairs tiSize evSize evCrossings evSegmentsNow grEdges grQueued huSize huBestX huBestY : Int32} {scBytes scTold tiTouching tiLyingAlong evBundle evCrossingOf evEventOf evLeftEvent evRightEvent grDegree grFar grQueue huX huY : Nat → Int32} {enX enY enLower : Int64} {evX evY evLower : Nat → Int64} {S : Nat → xsV} {Rw : va_W} {js : Nat} (hjs : js < 12) {sLx sLy sRx sRy sTi : Nat → Int32} {sSz : Int32} (hs_s : S js = (sLx, sLy, sRx, sRy, sTi, sSz)) {a0 : Int32} {a1 : Int32} {a2 : Int32} {a3 : Int32} {a4 : Int32} {out : (Nat → Int32) × (Nat → Int32) × (Nat → Int32) × (Nat → Int32) × (Nat → Int32) × Int32} (hf : fX7_append sLx sLy sRx sRy sTi sSz a0 a1 a2 a3 a4 = some out) : Met l yX7_append (xsWs yX7_append cX7_append 6 none) { frames := 1, cells := 0, slots := 0, locals := 26 } (xsP X (wK X kIsKept kIsStale hiLatest hiSize scBytes scTold scLength scFault scAt scNumber piSegmentsNow enKind enX enY enLower enFromX enFromY enToX enToY tiTouching tiLyingAlong tiMeetingPairs tiAlongPairs tiSize evX evY evLower evBundle evCrossingOf evEventOf evLeftEvent evRightEvent evSize evCrossings evSegmentsNow grDegree grEdges grFar grQueue grQueued huX huY huSize huBestX huBestY S Rw) [.ref (xsA X (27 + 6 * js)), .int a0, .int a1, .int a2, .int a3, .int a4]) (xsQv X (wK X kIsKept kIsStale hiLatest hiSize scBytes scTold scLength scFault scAt scNumber piSegmentsNow enKind enX enY enLower enFromX enFromY enToX enToY tiTouching tiLyingAlong tiMeetingPairs tiAlongPairs tiSize evX evY evLower evBundle evCrossingOf evEventOf evLeftEvent evRightEvent evSize evCrossings evSegmentsNow grDegree grEdges grFar grQueue grQueued huX huY huSize huBestX huBestY (xsSu S js (out.1, out.2.1, out.2.2.1, out.2.2.2.1, out.2.2.2.2.1, out.2.2.2.2.2)) Rw)) 0 0 (xsF X) := by
  refine xs_meth RX7 (by decide) rfl (Nat.le_of_ble_eq_true rfl) ?_
  intro p e s m below meth c ls H locs C hP hD hS hr hlk hl
  have hx := C.1
  have hb := C.2.1
  have hl : lv_has ls 6 [(0, .ref (xsA X (27 + 6 * js))), (1, .int a0), (2, .int a1), (3, .int a2), (4, .int a3), (5, .int a4)] := hl
  obtain ⟨Qq, hQq⟩ : ∃ Qq, Qq = xsQv X (wK X kIsKept kIsStale hiLatest hiSize scBytes scTold scLength scFault scAt scNumber piSegmentsNow enKind enX enY enLower enFromX enFromY enToX enToY tiTouching tiLyingAlong tiMeetingPairs tiAlongPairs tiSize evX evY evLower evBundle evCrossingOf evEventOf evLeftEvent evRightEvent evSize evCrossings evSegmentsNow grDegree grEdges grFar grQueue grQueued huX huY huSize huBestX huBestY (xsSu S js (out.1, out.2.1, out.2.2.1, out.2.2.2.1, out.2.2.2.2.1, out.2.2.2.2.2)) Rw) := ⟨_, rfl⟩
  rw [← hQq]
  unfold fX7_append at hf
  refine lv_aload_n hx hb dX7_append_0 rfl (lv_at hl 0 rfl) ?_
  replace hf := xsBd_use hf
  obtain ⟨o1, h2, hf⟩ := hf
  refine xs_calli hS (xs_runV (As := []) C (mX7_isFull l (js := js) hjs hs_s h2) w_868 w_861 w_862 w_106 w_863 hd_X7_isFull ⟨rfl, rfl, Nat.le_of_ble_eq_true rfl, Nat.le_of_ble_eq_true rfl, Nat.zero_le _, Nat.zero_le _⟩ hP hD hS (xs_lkS hjs) rfl hl.1 rfl (Nat.le_of_ble_eq_true rfl) dX7_append_1) (fun H locs hP hD hS => ?_)
  refine lv_if_eq (tgt := 8) hx hb dX7_append_4 (by decide) (fun c8 => ?_) (fun c8 => ?_)
  · replace hf := xsBr_t c8 hf
    refine lv_aload_n hx hb dX7_append_8 rfl (lv_at hl 0 rfl) ?_
    refine lv_aload_n hx hb dX7_append_9 rfl (lv_at hl 0 rfl) ?_
    refine xg_X7_27 (j := js) hjs hs_s C hP dX7_append_10 ?_
    refine lv_iload_n hx hb dX7_append_13 rfl (lv_at hl 1 rfl) ?_
    refine lv_iload_n hx hb dX7_append_14 rfl (lv_at hl 2 rfl) ?_
    refine lv_iload_n hx hb dX7_append_15 rfl (lv_at hl 3 rfl) ?_
    refine lv_iload hx hb dX7_append_16 (lv_at hl 4 rfl) ?_
    replace hf := xsBd_use hf
    obtain ⟨o3, h4, hf⟩ := hf
    refine xs_callv hS (xs_runV (As := [.int sSz, .int a0, .int a1, .int a2, .int a3]) C (mX7_put l (js := js) hjs hs_s h4) w_531 w_532 w_533 w_106 w_534 hd_X7_put ⟨rfl, rfl, Nat.le_of_ble_eq_true rfl, Nat.le_of_ble_eq_true rfl, Nat.zero_le _, Nat.zero_le _⟩ hP hD hS (xs_lkS hjs) rfl hl.1 rfl (Nat.le_of_ble_eq_true rfl) dX7_append_18) (fun H locs hP hD hS => ?_)
    refine lv_aload_n hx hb dX7_append_21 rfl (lv_at hl 0 rfl) ?_
    refine xg_X7_24 (j := js) hjs C hP dX7_append_22 ?_
    refine lv_aload_n hx hb dX7_append_25 rfl (lv_at hl 0 rfl) ?_
    refine xg_X7_27 (j := js) hjs (xsSu_eq _ _ _) C hP dX7_append_26 ?_
    refine lv_iload hx hb dX7_append_29 (lv_at hl 5 rfl) ?_
    replace hf := xsCk_use hf
    obtain ⟨h5, hf⟩ := hf
    refine xs_s4 (j := js) hjs (xsSu_eq _ _ _) (fun f' => (xsSu S js (o3.1, o3.2.1, o3.2.2.1, o3.2.2.2, f', sSz))) (fun f' => (xsSu_up _ _ _ _)) C hP hD hS h5 dX7_append_31 (fun f6 ef6 H locs hP hD hS hz => ?_)
    clear hz
    replace hf := xsLt_use ef6 hf
    refine lv_aload_n hx hb dX7_append_32 rfl (lv_at hl 0 rfl) ?_
    refine lv_dup hx hb dX7_append_33 rfl ?_
    refine xg_X7_27 (j := js) hjs (xsSu_eq _ _ _) C hP dX7_append_34 ?_
    refine lv_iconst (v := (1 : Int32)) hx hb dX7_append_37 (by decide) ?_
    refine lv_iadd hx hb dX7_append_38 ?_
    refine lv_topi (fun x7 ex7 => ?_)
    replace hf := xsLt_use ex7 hf
    refine xp_X7_27 (j := js) hjs (xsSu_eq _ _ _) (S1 := (xsSu S js (o3.1, o3.2.1, o3.2.2.1, o3.2.2.2, f6, x7))) (xsSu_up _ _ _ _) C hP hD hS dX7_append_39 (fun H locs hP hD hS hz => ?_)
    clear hz
    have ho := Option.some.inj hf
    subst ho
    rw [hQq]
    exact xs_vret C hr hlk hP hD hS dX7_append_42
  · replace hf := xsBr_f c8 hf
    have ho := Option.some.inj hf
    subst ho
    rw [hQq]
    rw [← xsSu_self (hs_s)] at hP hD
    exact xs_vret C hr hlk hP hD hS dX7_append_7
set_option maxRecDepth 100000 in
set_option maxHeartbeats 8000000 in
theorem mX7_copyOne (l : Launch) {X : xsX} {kIsKept kIsStale hiLatest hiSize scLength scFault scAt scNumber piSegmentsNow enKind enFromX enFromY enToX enToY tiMeetingPairs tiAlongPairs tiSize evSize evCrossings evSegmentsNow grEdges grQueued huSize huBestX huBestY : Int32} {scBytes scTold tiTouching tiLyingAlong evBundle evCrossingOf evEventOf evLeftEvent evRightEvent grDegree grFar grQueue huX huY : Nat → Int32} {enX enY enLower : Int64} {evX evY evLower : Nat → Int64} {S : Nat → xsV} {Rw : va_W} {js : Nat} (hjs : js < 12) {sLx sLy sRx sRy sTi : Nat → Int32} {sSz : Int32} (hs_s : S js = (sLx, sLy, sRx, sRy, sTi, sSz)) {a0 : Int32} {a2 : Int32} {out : (Nat → Int32) × (Nat → Int32) × (Nat → Int32) × (Nat → Int32) × (Nat → Int32)} (hf : fX7_copyOne sLx sLy sRx sRy sTi a0 a2 = some out) : Met l yX7_copyOne (xsWs yX7_copyOne cX7_copyOne 4 none) { frames := 0, cells := 0, slots := 0, locals := 0 } (xsP X (wK X kIsKept kIsStale hiLatest hiSize scBytes scTold scLength scFault scAt scNumber piSegmentsNow enKind enX enY enLower enFromX enFromY enToX enToY tiTouching tiLyingAlong tiMeetingPairs tiAlongPairs tiSize evX evY evLower evBundle evCrossingOf evEventOf evLeftEvent evRightEvent evSize evCrossings evSegmentsNow grDegree grEdges grFar grQueue grQueued huX huY huSize huBestX huBestY S Rw) [.ref (xsA X (27 + 6 * js)), .int a0, .ref (xsA X (27 + 6 * js)), .int a2]) (xsQv X (wK X kIsKept kIsStale hiLatest hiSize scBytes scTold scLength scFault scAt scNumber piSegmentsNow enKind enX enY enLower enFromX enFromY enToX enToY tiTouching tiLyingAlong tiMeetingPairs tiAlongPairs tiSize evX evY evLower evBundle evCrossingOf evEventOf evLeftEvent evRightEvent evSize evCrossings evSegmentsNow grDegree grEdges grFar grQueue grQueued huX huY huSize huBestX huBestY (xsSu S js (out.1, out.2.1, out.2.2.1, out.2.2.2.1, out.2.2.2.2, sSz)) Rw)) 0 0 (xsF X) := by
  refine xs_meth RX7 (by decide) rfl (Nat.le_of_ble_eq_true rfl) ?_
  intro p e s m below meth c ls H locs C hP hD hS hr hlk hl
  have hx := C.1
  have hb := C.2.1
  have hl : lv_has ls 4 [(0, .ref (xsA X (27 + 6 * js))), (1, .int a0), (2, .ref (xsA X (27 + 6 * js))), (3, .int a2)] := hl
  obtain ⟨Qq, hQq⟩ : ∃ Qq, Qq = xsQv X (wK X kIsKept kIsStale hiLatest hiSize scBytes scTold scLength scFault scAt scNumber piSegmentsNow enKind enX enY enLower enFromX enFromY enToX enToY tiTouching tiLyingAlong tiMeetingPairs tiAlongPairs tiSize evX evY evLower evBundle evCrossingOf evEventOf evLeftEvent evRightEvent evSize evCrossings evSegmentsNow grDegree grEdges grFar grQueue grQueued huX huY huSize huBestX huBestY (xsSu S js (out.1, out.2.1, out.2.2.1, out.2.2.2.1, out.2.2.2.2, sSz)) Rw) := ⟨_, rfl⟩
  rw [← hQq]
  unfold fX7_copyOne at hf
  refine lv_aload_n hx hb dX7_copyOne_0 rfl (lv_at hl 0 rfl) ?_
  refine xg_X7_9 (j := js) hjs C hP dX7_copyOne_1 ?_
  refine lv_iload_n hx hb dX7_copyOne_4 rfl (lv_at hl 1 rfl) ?_
  refine lv_aload_n hx hb dX7_copyOne_5 rfl (lv_at hl 2 rfl) ?_
  refine xg_X7_9 (j := js) hjs C hP dX7_copyOne_6 ?_
  refine lv_iload_n hx hb dX7_copyOne_9 rfl (lv_at hl 3 rfl) ?_
  replace hf := xsCk_use hf
  obtain ⟨h1, hf⟩ := hf
  refine xl_s0 (j := js) hjs hs_s C hP h1 dX7_copyOne_10 ?_
  replace hf := xsCk_use hf
  obtain ⟨h2, hf⟩ := hf
  refine xs_s0 (j := js) hjs hs_s (fun f' => (xsSu S js (f', sLy, sRx, sRy, sTi, sSz))) (fun f' => rfl) C hP hD hS h2 dX7_copyOne_11 (fun f3 ef3 H locs hP hD hS hz => ?_)
  clear hz
  replace hf := xsLt_use ef3 hf
  refine lv_aload_n hx hb dX7_copyOne_12 rfl (lv_at hl 0 rfl) ?_
  refine xg_X7_15 (j := js) hjs C hP dX7_copyOne_13 ?_
  refine lv_iload_n hx hb dX7_copyOne_16 rfl (lv_at hl 1 rfl) ?_
  refine lv_aload_n hx hb dX7_copyOne_17 rfl (lv_at hl 2 rfl) ?_
  refine xg_X7_15 (j := js) hjs C hP dX7_copyOne_18 ?_
  refine lv_iload_n hx hb dX7_copyOne_21 rfl (lv_at hl 3 rfl) ?_
  replace hf := xsCk_use hf
  obtain ⟨h4, hf⟩ := hf
  refine xl_s1 (j := js) hjs (xsSu_eq _ _ _) C hP h4 dX7_copyOne_22 ?_
  replace hf := xsCk_use hf
  obtain ⟨h5, hf⟩ := hf
  refine xs_s1 (j := js) hjs (xsSu_eq _ _ _) (fun f' => (xsSu S js (f3, f', sRx, sRy, sTi, sSz))) (fun f' => (xsSu_up _ _ _ _)) C hP hD hS h5 dX7_copyOne_23 (fun f6 ef6 H locs hP hD hS hz => ?_)
  clear hz
  replace hf := xsLt_use ef6 hf
  refine lv_aload_n hx hb dX7_copyOne_24 rfl (lv_at hl 0 rfl) ?_
  refine xg_X7_18 (j := js) hjs C hP dX7_copyOne_25 ?_
  refine lv_iload_n hx hb dX7_copyOne_28 rfl (lv_at hl 1 rfl) ?_
  refine lv_aload_n hx hb dX7_copyOne_29 rfl (lv_at hl 2 rfl) ?_
  refine xg_X7_18 (j := js) hjs C hP dX7_copyOne_30 ?_
  refine lv_iload_n hx hb dX7_copyOne_33 rfl (lv_at hl 3 rfl) ?_
  replace hf := xsCk_use hf
  obtain ⟨h7, hf⟩ := hf
  refine xl_s2 (j := js) hjs (xsSu_eq _ _ _) C hP h7 dX7_copyOne_34 ?_
  replace hf := xsCk_use hf
  obtain ⟨h8, hf⟩ := hf
  refine xs_s2 (j := js) hjs (xsSu_eq _ _ _) (fun f' => (xsSu S js (f3, f6, f', sRy, sTi, sSz))) (fun f' => (xsSu_up _ _ _ _)) C hP hD hS h8 dX7_copyOne_35 (fun f9 ef9 H locs hP hD hS hz => ?_)
  clear hz
  replace hf := xsLt_use ef9 hf
  refine lv_aload_n hx hb dX7_copyOne_36 rfl (lv_at hl 0 rfl) ?_
  refine xg_X7_21 (j := js) hjs C hP dX7_copyOne_37 ?_
  refine lv_iload_n hx hb dX7_copyOne_40 rfl (lv_at hl 1 rfl) ?_
  refine lv_aload_n hx hb dX7_copyOne_41 rfl (lv_at hl 2 rfl) ?_
  refine xg_X7_21 (j := js) hjs C hP dX7_copyOne_42 ?_
  refine lv_iload_n hx hb dX7_copyOne_45 rfl (lv_at hl 3 rfl) ?_
  replace hf := xsCk_use hf
  obtain ⟨h10, hf⟩ := hf
  refine xl_s3 (j := js) hjs (xsSu_eq _ _ _) C hP h10 dX7_copyOne_46 ?_
  replace hf := xsCk_use hf
  obtain ⟨h11, hf⟩ := hf
  refine xs_s3 (j := js) hjs (xsSu_eq _ _ _) (fun f' => (xsSu S js (f3, f6, f9, f', sTi, sSz))) (fun f' => (xsSu_up _ _ _ _)) C hP hD hS h11 dX7_copyOne_47 (fun f12 ef12 H locs hP hD hS hz => ?_)
  clear hz
  replace hf := xsLt_use ef12 hf
  refine lv_aload_n hx hb dX7_copyOne_48 rfl (lv_at hl 0 rfl) ?_
  refine xg_X7_24 (j := js) hjs C hP dX7_copyOne_49 ?_
  refine lv_iload_n hx hb dX7_copyOne_52 rfl (lv_at hl 1 rfl) ?_
  refine lv_aload_n hx hb dX7_copyOne_53 rfl (lv_at hl 2 rfl) ?_
  refine xg_X7_24 (j := js) hjs C hP dX7_copyOne_54 ?_
  refine lv_iload_n hx hb dX7_copyOne_57 rfl (lv_at hl 3 rfl) ?_
  replace hf := xsCk_use hf
  obtain ⟨h13, hf⟩ := hf
  refine xl_s4 (j := js) hjs (xsSu_eq _ _ _) C hP h13 dX7_copyOne_58 ?_
  replace hf := xsCk_use hf
  obtain ⟨h14, hf⟩ := hf
  refine xs_s4 (j := js) hjs (xsSu_eq _ _ _) (fun f' => (xsSu S js (f3, f6, f9, f12, f', sSz))) (fun f' => (xsSu_up _ _ _ _)) C hP hD hS h14 dX7_copyOne_59 (fun f15 ef15 H locs hP hD hS hz => ?_)
  clear hz
  replace hf := xsLt_use ef15 hf
  have ho := Option.some.inj hf
  subst ho
  rw [hQq]
  exact xs_vret C hr hlk hP hD hS dX7_copyOne_60
set_option maxRecDepth 100000 in
set_option maxHeartbeats 8000000 in
theorem mX7_drop (l : Launch) {X : xsX} {kIsKept kIsStale hiLatest hiSize scLength scFault scAt scNumber piSegmentsNow enKind enFromX enFromY enToX enToY tiMeetingPairs tiAlongPairs tiSize evSize evCrossings evSegmentsNow grEdges grQueued huSize huBestX huBestY : Int32} {scBytes scTold tiTouching tiLyingAlong evBundle evCrossingOf evEventOf evLeftEvent evRightEvent grDegree grFar grQueue huX huY : Nat → Int32} {enX enY enLower : Int64} {evX evY evLower : Nat → Int64} {S : Nat → xsV} {Rw : va_W} {js : Nat} (hjs : js < 12) {sLx sLy sRx sRy sTi : Nat → Int32} {sSz : Int32} (hs_s : S js = (sLx, sLy, sRx, sRy, sTi, sSz)) {a0 : Int32} {out : (Nat → Int32) × (Nat → Int32) × (Nat → Int32) × (Nat → Int32) × (Nat → Int32) × Int32} (hf : fX7_drop sLx sLy sRx sRy sTi sSz a0 = some out) : Met l yX7_drop (xsWs yX7_drop cX7_drop 3 none) { frames := 1, cells := 0, slots := 0, locals := 23 } (xsP X (wK X kIsKept kIsStale hiLatest hiSize scBytes scTold scLength scFault scAt scNumber piSegmentsNow enKind enX enY enLower enFromX enFromY enToX enToY tiTouching tiLyingAlong tiMeetingPairs tiAlongPairs tiSize evX evY evLower evBundle evCrossingOf evEventOf evLeftEvent evRightEvent evSize evCrossings evSegmentsNow grDegree grEdges grFar grQueue grQueued huX huY huSize huBestX huBestY S Rw) [.ref (xsA X (27 + 6 * js)), .int a0]) (xsQv X (wK X kIsKept kIsStale hiLatest hiSize scBytes scTold scLength scFault scAt scNumber piSegmentsNow enKind enX enY enLower enFromX enFromY enToX enToY tiTouching tiLyingAlong tiMeetingPairs tiAlongPairs tiSize evX evY evLower evBundle evCrossingOf evEventOf evLeftEvent evRightEvent evSize evCrossings evSegmentsNow grDegree grEdges grFar grQueue grQueued huX huY huSize huBestX huBestY (xsSu S js (out.1, out.2.1, out.2.2.1, out.2.2.2.1, out.2.2.2.2.1, out.2.2.2.2.2)) Rw)) 0 0 (xsF X) := by
  refine xs_meth RX7 (by decide) rfl (Nat.le_of_ble_eq_true rfl) ?_
  intro p e s m below meth c ls H locs C hP hD hS hr hlk hl
  have hx := C.1
  have hb := C.2.1
  have hl : lv_has ls 3 [(0, .ref (xsA X (27 + 6 * js))), (1, .int a0)] := hl
  obtain ⟨Qq, hQq⟩ : ∃ Qq, Qq = xsQv X (wK X kIsKept kIsStale hiLatest hiSize scBytes scTold scLength scFault scAt scNumber piSegmentsNow enKind enX enY enLower enFromX enFromY enToX enToY tiTouching tiLyingAlong tiMeetingPairs tiAlongPairs tiSize evX evY evLower evBundle evCrossingOf evEventOf evLeftEvent evRightEvent evSize evCrossings evSegmentsNow grDegree grEdges grFar grQueue grQueued huX huY huSize huBestX huBestY (xsSu S js (out.1, out.2.1, out.2.2.1, out.2.2.2.1, out.2.2.2.2.1, out.2.2.2.2.2)) Rw) := ⟨_, rfl⟩
  rw [← hQq]
  unfold fX7_drop at hf
  refine lv_iload_n hx hb dX7_drop_0 rfl (lv_at hl 1 rfl) ?_
  refine lv_istore_n (lv' := [(2, .int a0), (0, .ref (xsA X (27 + 6 * js))), (1, .int a0)]) hx hb dX7_drop_1 rfl hl (by decide) rfl (fun ls hl => ?_)
  have K7 : ∀ (y8 : Nat → Int32) (y9 : Nat → Int32) (y10 : Nat → Int32) (y11 : Nat → Int32) (y12 : Nat → Int32) (hf : fX7_drop_J27 sSz y8 y9 y10 y11 y12 = some out) (H : Heap) (locs : List Loc) (ls : Array Slot), va_P (xsD X) vwCl (wK X kIsKept kIsStale hiLatest hiSize scBytes scTold scLength scFault scAt scNumber piSegmentsNow enKind enX enY enLower enFromX enFromY enToX enToY tiTouching tiLyingAlong tiMeetingPairs tiAlongPairs tiSize evX evY evLower evBundle evCrossingOf evEventOf evLeftEvent evRightEvent evSize evCrossings evSegmentsNow grDegree grEdges grFar grQueue grQueued huX huY huSize huBestX huBestY (xsSu S js (y8, y9, y10, y11, y12, sSz)) Rw) H → va_D (xsF X) (wK X kIsKept kIsStale hiLatest hiSize scBytes scTold scLength scFault scAt scNumber piSegmentsNow enKind enX enY enLower enFromX enFromY enToX enToY tiTouching tiLyingAlong tiMeetingPairs tiAlongPairs tiSize evX evY evLower evBundle evCrossingOf evEventOf evLeftEvent evRightEvent evSize evCrossings evSegmentsNow grDegree grEdges grFar grQueue grQueued huX huY huSize huBestX huBestY (xsSu S js (y8, y9, y10, y11, y12, sSz)) Rw) → va_S (xsF X) s.heap H locs → lv_has ls 3 [(0, .ref (xsA X (27 + 6 * js)))] → W p l e { frames := 1, cells := 0, slots := 0, locals := 23 } s m ([.ref (xsA X (27 + 6 * js)), .int a0] : List Value).toArray below meth c H locs 0 0 (MQ below Qq ([.ref (xsA X (27 + 6 * js)), .int a0] : List Value).toArray s 0 0 (xsF X)) (F0 m 27 ls []) := by
    intro y8 y9 y10 y11 y12 hf H locs ls hP hD hS hl
    unfold fX7_drop_J27 at hf
    refine lv_aload_n hx hb dX7_drop_27 rfl (lv_at hl 0 rfl) ?_
    refine lv_dup hx hb dX7_drop_28 rfl ?_
    refine xg_X7_27 (j := js) hjs (xsSu_eq _ _ _) C hP dX7_drop_29 ?_
    refine lv_iconst (v := (1 : Int32)) hx hb dX7_drop_32 (by decide) ?_
    refine lv_isub hx hb dX7_drop_33 ?_
    refine lv_topi (fun x13 ex13 => ?_)
    replace hf := xsLt_use ex13 hf
    refine xp_X7_27 (j := js) hjs (xsSu_eq _ _ _) (S1 := (xsSu S js (y8, y9, y10, y11, y12, x13))) (xsSu_up _ _ _ _) C hP hD hS dX7_drop_34 (fun H locs hP hD hS hz => ?_)
    clear hz
    have ho := Option.some.inj hf
    subst ho
    rw [hQq]
    exact xs_vret C hr hlk hP hD hS dX7_drop_37
  replace hf := xsBd_use hf
  obtain ⟨r7, hk70, hf⟩ := hf
  have L7 : ∀ (sg : Int32 × (Nat → Int32) × (Nat → Int32) × (Nat → Int32) × (Nat → Int32) × (Nat → Int32)) (rg : (Nat → Int32) × (Nat → Int32) × (Nat → Int32) × (Nat → Int32) × (Nat → Int32)), xsWh (fun s7 => fX7_drop_L2 sSz s7.1 s7.2.1 s7.2.2.1 s7.2.2.2.1 s7.2.2.2.2.1 s7.2.2.2.2.2) sg = some rg → (fX7_drop_J27 sSz rg.1 rg.2.1 rg.2.2.1 rg.2.2.2.1 rg.2.2.2.2 = some out → ∀ (H : Heap) (locs : List Loc) (ls : Array Slot), va_P (xsD X) vwCl (wK X kIsKept kIsStale hiLatest hiSize scBytes scTold scLength scFault scAt scNumber piSegmentsNow enKind enX enY enLower enFromX enFromY enToX enToY tiTouching tiLyingAlong tiMeetingPairs tiAlongPairs tiSize evX evY evLower evBundle evCrossingOf evEventOf evLeftEvent evRightEvent evSize evCrossings evSegmentsNow grDegree grEdges grFar grQueue grQueued huX huY huSize huBestX huBestY (xsSu S js (sg.2.1, sg.2.2.1, sg.2.2.2.1, sg.2.2.2.2.1, sg.2.2.2.2.2, sSz)) Rw) H → va_D (xsF X) (wK X kIsKept kIsStale hiLatest hiSize scBytes scTold scLength scFault scAt scNumber piSegmentsNow enKind enX enY enLower enFromX enFromY enToX enToY tiTouching tiLyingAlong tiMeetingPairs tiAlongPairs tiSize evX evY evLower evBundle evCrossingOf evEventOf evLeftEvent evRightEvent evSize evCrossings evSegmentsNow grDegree grEdges grFar grQueue grQueued huX huY huSize huBestX huBestY (xsSu S js (sg.2.1, sg.2.2.1, sg.2.2.2.1, sg.2.2.2.2.1, sg.2.2.2.2.2, sSz)) Rw) → va_S (xsF X) s.heap H locs → lv_has ls 3 [(0, .ref (xsA X (27 + 6 * js))), (2, .int sg.1)] → W p l e { frames := 1, cells := 0, slots := 0, locals := 23 } s m ([.ref (xsA X (27 + 6 * js)), .int a0] : List Value).toArray below meth c H locs 0 0 (MQ below Qq ([.ref (xsA X (27 + 6 * js)), .int a0] : List Value).toArray s 0 0 (xsF X)) (F0 m 2 ls [])) := by
    refine xsWh_ind ?_
    intro sg r7 u7 hf ih7 hx7 hk7 H locs ls hP hD hS hl
    obtain ⟨y1, y2, y3, y4, y5, y6⟩ := sg
    replace hf : fX7_drop_L2 sSz y1 y2 y3 y4 y5 y6 = some u7 := hf
    replace hl : lv_has ls 3 [(0, .ref (xsA X (27 + 6 * js))), (2, .int y1)] := hl
    replace hP : va_P (xsD X) vwCl (wK X kIsKept kIsStale hiLatest hiSize scBytes scTold scLength scFault scAt scNumber piSegmentsNow enKind enX enY enLower enFromX enFromY enToX enToY tiTouching tiLyingAlong tiMeetingPairs tiAlongPairs tiSize evX evY evLower evBundle evCrossingOf evEventOf evLeftEvent evRightEvent evSize evCrossings evSegmentsNow grDegree grEdges grFar grQueue grQueued huX huY huSize huBestX huBestY (xsSu S js (y2, y3, y4, y5, y6, sSz)) Rw) H := hP
    replace hD : va_D (xsF X) (wK X kIsKept kIsStale hiLatest hiSize scBytes scTold scLength scFault scAt scNumber piSegmentsNow enKind enX enY enLower enFromX enFromY enToX enToY tiTouching tiLyingAlong tiMeetingPairs tiAlongPairs tiSize evX evY evLower evBundle evCrossingOf evEventOf evLeftEvent evRightEvent evSize evCrossings evSegmentsNow grDegree grEdges grFar grQueue grQueued huX huY huSize huBestX huBestY (xsSu S js (y2, y3, y4, y5, y6, sSz)) Rw) := hD
    unfold fX7_drop_L2 at hf
    refine lv_iload_n hx hb dX7_drop_2 rfl (lv_at hl 1 rfl) ?_
    refine lv_iconst (v := (1 : Int32)) hx hb dX7_drop_3 (by decide) ?_
    refine lv_iadd hx hb dX7_drop_4 ?_
    refine lv_aload_n hx hb dX7_drop_5 rfl (lv_at hl 0 rfl) ?_
    refine xg_X7_27 (j := js) hjs (xsSu_eq _ _ _) C hP dX7_drop_6 ?_
    refine lv_icmp_ge (tgt := 27) hx hb dX7_drop_9 (by decide) (fun c17 => ?_) (fun c17 => ?_)
    · replace hf := xsBr_t c17 hf
      have ez := hx7 _ (Option.some.inj hf).symm
      subst ez
      exact K7 y2 y3 y4 y5 y6 hk7 H locs ls hP hD hS (lv_sub hl [0] rfl)
    · replace hf := xsBr_f c17 hf
      refine lv_aload_n hx hb dX7_drop_12 rfl (lv_at hl 0 rfl) ?_
      refine lv_iload_n hx hb dX7_drop_13 rfl (lv_at hl 1 rfl) ?_
      refine lv_aload_n hx hb dX7_drop_14 rfl (lv_at hl 0 rfl) ?_
      refine lv_iload_n hx hb dX7_drop_15 rfl (lv_at hl 1 rfl) ?_
      refine lv_iconst (v := (1 : Int32)) hx hb dX7_drop_16 (by decide) ?_
      refine lv_iadd hx hb dX7_drop_17 ?_
      replace hf := xsBd_use hf
      obtain ⟨o14, h15, hf⟩ := hf
      refine xs_callv hS (xs_runV (As := [.int y1, .ref (xsA X (27 + 6 * js)), .int (y1 + (1 : Int32))]) C (mX7_copyOne l (js := js) hjs (xsSu_eq _ _ _) h15) w_520 w_522 w_1 w_106 w_523 hd_X7_copyOne ⟨rfl, rfl, Nat.le_of_ble_eq_true rfl, Nat.le_of_ble_eq_true rfl, Nat.zero_le _, Nat.zero_le _⟩ hP hD hS (xs_lkS hjs) rfl hl.1 rfl (Nat.le_of_ble_eq_true rfl) dX7_drop_18) (fun H locs hP hD hS => ?_)
      rw [xsSu_up] at hP hD
      obtain ⟨x16, ex16⟩ : ∃ y : Int32, y = y1 + (1 : Int32) := ⟨_, rfl⟩
      replace hf := xsLt_use ex16 hf
      refine lv_iinc (v := x16) (lv' := [(2, .int x16), (0, .ref (xsA X (27 + 6 * js)))]) hx hb dX7_drop_21 hl (k := 1) rfl (by rw [ex16]; rfl) (by decide) rfl (fun ls hl => ?_)
      refine lv_goto (tgt := 2) hx hb dX7_drop_24 (by decide) ?_
      exact ih7 _ (Option.some.inj hf).symm hk7 H locs ls hP hD hS (lv_sub hl [1, 0] rfl)
  rw [← xsSu_self (hs_s)] at hP hD
  exact L7 (a0, sLx, sLy, sRx, sRy, sTi) r7 hk70 hf H locs ls hP hD hS (lv_sub hl [1, 0] rfl)
set_option maxRecDepth 100000 in
set_option maxHeartbeats 8000000 in
theorem mX10_isCoordinate (l : Launch) {X : xsX} {w : va_W} {a0 : Int64} {out : Int32} (hf : fX10_isCoordinate a0 = some out) : Met l yX10_isCoordinate (xsWs yX10_isCoordinate cX10_isCoordinate 2 (some .boolean)) { frames := 0, cells := 0, slots := 0, locals := 0 } (xsP X (w) [.long a0]) (xsQi X out (w)) 0 0 (xsF X) := by
  refine xs_meth RX10 (by decide) rfl (Nat.le_of_ble_eq_true rfl) ?_
  intro p e s m below meth c ls H locs C hP hD hS hr hlk hl
  have hx := C.1
  have hb := C.2.1
  have hl : lv_has ls 2 [(0, .long a0)] := hl
  obtain ⟨Qq, hQq⟩ : ∃ Qq, Qq = xsQi X out (w) := ⟨_, rfl⟩
  rw [← hQq]
  unfold fX10_isCoordinate at hf
  refine lv_lload_n hx hb dX10_isCoordinate_0 rfl (lv_at hl 0 rfl) ?_
  refine lv_ldc2 (v := (-999 : Int64)) hx hb C.2.2.2.1 (xs_kts C _ w_891) dX10_isCoordinate_1 ?_
  refine xs_lcmp_lt (tgt := 20) C dX10_isCoordinate_4 dX10_isCoordinate_5 (by decide) (fun c2 => ?_) (fun c2 => ?_)
  · replace hf := xsBr_t c2 hf
    refine lv_iconst (v := (0 : Int32)) hx hb dX10_isCoordinate_20 (by decide) ?_
    have ho := Option.some.inj hf
    subst ho
    rw [hQq]
    exact xs_zret C hr hlk xsB_0 hP hD hS dX10_isCoordinate_21
  · replace hf := xsBr_f c2 hf
    refine lv_lload_n hx hb dX10_isCoordinate_8 rfl (lv_at hl 0 rfl) ?_
    refine lv_ldc2 (v := (999 : Int64)) hx hb C.2.2.2.1 (xs_kts C _ w_892) dX10_isCoordinate_9 ?_
    refine xs_lcmp_gt (tgt := 20) C dX10_isCoordinate_12 dX10_isCoordinate_13 (by decide) (fun c1 => ?_) (fun c1 => ?_)
    · replace hf := xsBr_t c1 hf
      refine lv_iconst (v := (0 : Int32)) hx hb dX10_isCoordinate_20 (by decide) ?_
      have ho := Option.some.inj hf
      subst ho
      rw [hQq]
      exact xs_zret C hr hlk xsB_0 hP hD hS dX10_isCoordinate_21
    · replace hf := xsBr_f c1 hf
      refine lv_iconst (v := (1 : Int32)) hx hb dX10_isCoordinate_16 (by decide) ?_
      refine lv_goto (tgt := 21) hx hb dX10_isCoordinate_17 (by decide) ?_
      have ho := Option.some.inj hf
      subst ho
      rw [hQq]
      exact xs_zret C hr hlk xsB_1 hP hD hS dX10_isCoordinate_21
set_option maxRecDepth 100000 in
set_option maxHeartbeats 8000000 in
theorem mX7_canShift (l : Launch) {X : xsX} {kIsKept kIsStale hiLatest hiSize scLength scFault scAt scNumber piSegmentsNow enKind enFromX enFromY enToX enToY tiMeetingPairs tiAlongPairs tiSize evSize evCrossings evSegmentsNow grEdges grQueued huSize huBestX huBestY : Int32} {scBytes scTold tiTouching tiLyingAlong evBundle evCrossingOf evEventOf evLeftEvent evRightEvent grDegree grFar grQueue huX huY : Nat → Int32} {enX enY enLower : Int64} {evX evY evLower : Nat → Int64} {S : Nat → xsV} {Rw : va_W} {js : Nat} (hjs : js < 12) {sLx sLy sRx sRy sTi : Nat → Int32} {sSz : Int32} (hs_s : S js = (sLx, sLy, sRx, sRy, sTi, sSz)) {a0 : Int32} {a1 : Int64} {a2 : Int64} {out : Int32} (hf : fX7_canShift sLx sLy sRx sRy a0 a1 a2 = some out) : Met l yX7_canShift (xsWs yX7_canShift cX7_canShift 6 (some .boolean)) { frames := 1, cells := 0, slots := 0, locals := 21 } (xsP X (wK X kIsKept kIsStale hiLatest hiSize scBytes scTold scLength scFault scAt scNumber piSegmentsNow enKind enX enY enLower enFromX enFromY enToX enToY tiTouching tiLyingAlong tiMeetingPairs tiAlongPairs tiSize evX evY evLower evBundle evCrossingOf evEventOf evLeftEvent evRightEvent evSize evCrossings evSegmentsNow grDegree grEdges grFar grQueue grQueued huX huY huSize huBestX huBestY S Rw) [.ref (xsA X (27 + 6 * js)), .int a0, .long a1, .long a2]) (xsQi X out (wK X kIsKept kIsStale hiLatest hiSize scBytes scTold scLength scFault scAt scNumber piSegmentsNow enKind enX enY enLower enFromX enFromY enToX enToY tiTouching tiLyingAlong tiMeetingPairs tiAlongPairs tiSize evX evY evLower evBundle evCrossingOf evEventOf evLeftEvent evRightEvent evSize evCrossings evSegmentsNow grDegree grEdges grFar grQueue grQueued huX huY huSize huBestX huBestY S Rw)) 0 0 (xsF X) := by
  refine xs_meth RX7 (by decide) rfl (Nat.le_of_ble_eq_true rfl) ?_
  intro p e s m below meth c ls H locs C hP hD hS hr hlk hl
  have hx := C.1
  have hb := C.2.1
  have hl : lv_has ls 6 [(0, .ref (xsA X (27 + 6 * js))), (1, .int a0), (2, .long a1), (4, .long a2)] := hl
  obtain ⟨Qq, hQq⟩ : ∃ Qq, Qq = xsQi X out (wK X kIsKept kIsStale hiLatest hiSize scBytes scTold scLength scFault scAt scNumber piSegmentsNow enKind enX enY enLower enFromX enFromY enToX enToY tiTouching tiLyingAlong tiMeetingPairs tiAlongPairs tiSize evX evY evLower evBundle evCrossingOf evEventOf evLeftEvent evRightEvent evSize evCrossings evSegmentsNow grDegree grEdges grFar grQueue grQueued huX huY huSize huBestX huBestY S Rw) := ⟨_, rfl⟩
  rw [← hQq]
  unfold fX7_canShift at hf
  refine lv_aload_n hx hb dX7_canShift_0 rfl (lv_at hl 0 rfl) ?_
  refine xg_X7_9 (j := js) hjs C hP dX7_canShift_1 ?_
  refine lv_iload_n hx hb dX7_canShift_4 rfl (lv_at hl 1 rfl) ?_
  replace hf := xsCk_use hf
  obtain ⟨h1, hf⟩ := hf
  refine xl_s0 (j := js) hjs hs_s C hP h1 dX7_canShift_5 ?_
  refine lv_i2l hx hb dX7_canShift_6 rfl ?_
  refine lv_lload_n hx hb dX7_canShift_7 rfl (lv_at hl 2 rfl) ?_
  refine lv_ladd hx hb dX7_canShift_8 ?_
  replace hf := xsBd_use hf
  obtain ⟨o2, h3, hf⟩ := hf
  refine xs_calli hS (xs_runSN (As := [.long (((sLx a0.toNatClampNeg).toInt64) + a1)]) C (mX10_isCoordinate l  h3) C.2.2.2.2.2.2.2.1.2.2.2.2.1 w_889 w_105 w_890 hd_X10_isCoordinate ⟨rfl, rfl, Nat.le_of_ble_eq_true rfl, Nat.le_of_ble_eq_true rfl, Nat.zero_le _, Nat.zero_le _⟩ hP hD hS hl.1 rfl (Nat.le_of_ble_eq_true rfl) dX7_canShift_9) (fun H locs hP hD hS => ?_)
  refine lv_if_eq (tgt := 66) hx hb dX7_canShift_12 (by decide) (fun c16 => ?_) (fun c16 => ?_)
  · replace hf := xsBr_t c16 hf
    refine lv_iconst (v := (0 : Int32)) hx hb dX7_canShift_66 (by decide) ?_
    have ho := Option.some.inj hf
    subst ho
    rw [hQq]
    exact xs_zret C hr hlk xsB_0 hP hD hS dX7_canShift_67
  · replace hf := xsBr_f c16 hf
    refine lv_aload_n hx hb dX7_canShift_15 rfl (lv_at hl 0 rfl) ?_
    refine xg_X7_18 (j := js) hjs C hP dX7_canShift_16 ?_
    refine lv_iload_n hx hb dX7_canShift_19 rfl (lv_at hl 1 rfl) ?_
    replace hf := xsCk_use hf
    obtain ⟨h4, hf⟩ := hf
    refine xl_s2 (j := js) hjs hs_s C hP h4 dX7_canShift_20 ?_
    refine lv_i2l hx hb dX7_canShift_21 rfl ?_
    refine lv_lload_n hx hb dX7_canShift_22 rfl (lv_at hl 2 rfl) ?_
    refine lv_ladd hx hb dX7_canShift_23 ?_
    replace hf := xsBd_use hf
    obtain ⟨o5, h6, hf⟩ := hf
    refine xs_calli hS (xs_runSN (As := [.long (((sRx a0.toNatClampNeg).toInt64) + a1)]) C (mX10_isCoordinate l  h6) C.2.2.2.2.2.2.2.1.2.2.2.2.1 w_889 w_105 w_890 hd_X10_isCoordinate ⟨rfl, rfl, Nat.le_of_ble_eq_true rfl, Nat.le_of_ble_eq_true rfl, Nat.zero_le _, Nat.zero_le _⟩ hP hD hS hl.1 rfl (Nat.le_of_ble_eq_true rfl) dX7_canShift_24) (fun H locs hP hD hS => ?_)
    refine lv_if_eq (tgt := 66) hx hb dX7_canShift_27 (by decide) (fun c15 => ?_) (fun c15 => ?_)
    · replace hf := xsBr_t c15 hf
      refine lv_iconst (v := (0 : Int32)) hx hb dX7_canShift_66 (by decide) ?_
      have ho := Option.some.inj hf
      subst ho
      rw [hQq]
      exact xs_zret C hr hlk xsB_0 hP hD hS dX7_canShift_67
    · replace hf := xsBr_f c15 hf
      refine lv_aload_n hx hb dX7_canShift_30 rfl (lv_at hl 0 rfl) ?_
      refine xg_X7_15 (j := js) hjs C hP dX7_canShift_31 ?_
      refine lv_iload_n hx hb dX7_canShift_34 rfl (lv_at hl 1 rfl) ?_
      replace hf := xsCk_use hf
      obtain ⟨h7, hf⟩ := hf
      refine xl_s1 (j := js) hjs hs_s C hP h7 dX7_canShift_35 ?_
      refine lv_i2l hx hb dX7_canShift_36 rfl ?_
      refine lv_lload hx hb dX7_canShift_37 (lv_at hl 3 rfl) ?_
      refine lv_ladd hx hb dX7_canShift_39 ?_
      replace hf := xsBd_use hf
      obtain ⟨o8, h9, hf⟩ := hf
      refine xs_calli hS (xs_runSN (As := [.long (((sLy a0.toNatClampNeg).toInt64) + a2)]) C (mX10_isCoordinate l  h9) C.2.2.2.2.2.2.2.1.2.2.2.2.1 w_889 w_105 w_890 hd_X10_isCoordinate ⟨rfl, rfl, Nat.le_of_ble_eq_true rfl, Nat.le_of_ble_eq_true rfl, Nat.zero_le _, Nat.zero_le _⟩ hP hD hS hl.1 rfl (Nat.le_of_ble_eq_true rfl) dX7_canShift_40) (fun H locs hP hD hS => ?_)
      refine lv_if_eq (tgt := 66) hx hb dX7_canShift_43 (by decide) (fun c14 => ?_) (fun c14 => ?_)
      · replace hf := xsBr_t c14 hf
        refine lv_iconst (v := (0 : Int32)) hx hb dX7_canShift_66 (by decide) ?_
        have ho := Option.some.inj hf
        subst ho
        rw [hQq]
        exact xs_zret C hr hlk xsB_0 hP hD hS dX7_canShift_67
      · replace hf := xsBr_f c14 hf
        refine lv_aload_n hx hb dX7_canShift_46 rfl (lv_at hl 0 rfl) ?_
        refine xg_X7_21 (j := js) hjs C hP dX7_canShift_47 ?_
        refine lv_iload_n hx hb dX7_canShift_50 rfl (lv_at hl 1 rfl) ?_
        replace hf := xsCk_use hf
        obtain ⟨h10, hf⟩ := hf
        refine xl_s3 (j := js) hjs hs_s C hP h10 dX7_canShift_51 ?_
        refine lv_i2l hx hb dX7_canShift_52 rfl ?_
        refine lv_lload hx hb dX7_canShift_53 (lv_at hl 3 rfl) ?_
        refine lv_ladd hx hb dX7_canShift_55 ?_
        replace hf := xsBd_use hf
        obtain ⟨o11, h12, hf⟩ := hf
        refine xs_calli hS (xs_runSN (As := [.long (((sRy a0.toNatClampNeg).toInt64) + a2)]) C (mX10_isCoordinate l  h12) C.2.2.2.2.2.2.2.1.2.2.2.2.1 w_889 w_105 w_890 hd_X10_isCoordinate ⟨rfl, rfl, Nat.le_of_ble_eq_true rfl, Nat.le_of_ble_eq_true rfl, Nat.zero_le _, Nat.zero_le _⟩ hP hD hS hl.1 rfl (Nat.le_of_ble_eq_true rfl) dX7_canShift_56) (fun H locs hP hD hS => ?_)
        refine lv_if_eq (tgt := 66) hx hb dX7_canShift_59 (by decide) (fun c13 => ?_) (fun c13 => ?_)
        · replace hf := xsBr_t c13 hf
          refine lv_iconst (v := (0 : Int32)) hx hb dX7_canShift_66 (by decide) ?_
          have ho := Option.some.inj hf
          subst ho
          rw [hQq]
          exact xs_zret C hr hlk xsB_0 hP hD hS dX7_canShift_67
        · replace hf := xsBr_f c13 hf
          refine lv_iconst (v := (1 : Int32)) hx hb dX7_canShift_62 (by decide) ?_
          refine lv_goto (tgt := 67) hx hb dX7_canShift_63 (by decide) ?_
          have ho := Option.some.inj hf
          subst ho
          rw [hQq]
          exact xs_zret C hr hlk xsB_1 hP hD hS dX7_canShift_67
set_option maxRecDepth 100000 in
set_option maxHeartbeats 8000000 in
theorem mX7_shift (l : Launch) {X : xsX} {kIsKept kIsStale hiLatest hiSize scLength scFault scAt scNumber piSegmentsNow enKind enFromX enFromY enToX enToY tiMeetingPairs tiAlongPairs tiSize evSize evCrossings evSegmentsNow grEdges grQueued huSize huBestX huBestY : Int32} {scBytes scTold tiTouching tiLyingAlong evBundle evCrossingOf evEventOf evLeftEvent evRightEvent grDegree grFar grQueue huX huY : Nat → Int32} {enX enY enLower : Int64} {evX evY evLower : Nat → Int64} {S : Nat → xsV} {Rw : va_W} {js : Nat} (hjs : js < 12) {sLx sLy sRx sRy sTi : Nat → Int32} {sSz : Int32} (hs_s : S js = (sLx, sLy, sRx, sRy, sTi, sSz)) {a0 : Int32} {a1 : Int32} {a2 : Int32} {out : (Nat → Int32) × (Nat → Int32) × (Nat → Int32) × (Nat → Int32)} (hf : fX7_shift sLx sLy sRx sRy a0 a1 a2 = some out) : Met l yX7_shift (xsWs yX7_shift cX7_shift 4 none) { frames := 0, cells := 0, slots := 0, locals := 0 } (xsP X (wK X kIsKept kIsStale hiLatest hiSize scBytes scTold scLength scFault scAt scNumber piSegmentsNow enKind enX enY enLower enFromX enFromY enToX enToY tiTouching tiLyingAlong tiMeetingPairs tiAlongPairs tiSize evX evY evLower evBundle evCrossingOf evEventOf evLeftEvent evRightEvent evSize evCrossings evSegmentsNow grDegree grEdges grFar grQueue grQueued huX huY huSize huBestX huBestY S Rw) [.ref (xsA X (27 + 6 * js)), .int a0, .int a1, .int a2]) (xsQv X (wK X kIsKept kIsStale hiLatest hiSize scBytes scTold scLength scFault scAt scNumber piSegmentsNow enKind enX enY enLower enFromX enFromY enToX enToY tiTouching tiLyingAlong tiMeetingPairs tiAlongPairs tiSize evX evY evLower evBundle evCrossingOf evEventOf evLeftEvent evRightEvent evSize evCrossings evSegmentsNow grDegree grEdges grFar grQueue grQueued huX huY huSize huBestX huBestY (xsSu S js (out.1, out.2.1, out.2.2.1, out.2.2.2, sTi, sSz)) Rw)) 0 0 (xsF X) := by
  refine xs_meth RX7 (by decide) rfl (Nat.le_of_ble_eq_true rfl) ?_
  intro p e s m below meth c ls H locs C hP hD hS hr hlk hl
  have hx := C.1
  have hb := C.2.1
  have hl : lv_has ls 4 [(0, .ref (xsA X (27 + 6 * js))), (1, .int a0), (2, .int a1), (3, .int a2)] := hl
  obtain ⟨Qq, hQq⟩ : ∃ Qq, Qq = xsQv X (wK X kIsKept kIsStale hiLatest hiSize scBytes scTold scLength scFault scAt scNumber piSegmentsNow enKind enX enY enLower enFromX enFromY enToX enToY tiTouching tiLyingAlong tiMeetingPairs tiAlongPairs tiSize evX evY evLower evBundle evCrossingOf evEventOf evLeftEvent evRightEvent evSize evCrossings evSegmentsNow grDegree grEdges grFar grQueue grQueued huX huY huSize huBestX huBestY (xsSu S js (out.1, out.2.1, out.2.2.1, out.2.2.2, sTi, sSz)) Rw) := ⟨_, rfl⟩
  rw [← hQq]
  unfold fX7_shift at hf
  refine lv_aload_n hx hb dX7_shift_0 rfl (lv_at hl 0 rfl) ?_
  refine xg_X7_9 (j := js) hjs C hP dX7_shift_1 ?_
  refine lv_iload_n hx hb dX7_shift_4 rfl (lv_at hl 1 rfl) ?_
  refine lv_dup2_11 hx hb dX7_shift_5 rfl rfl ?_
  replace hf := xsCk_use hf
  obtain ⟨h1, hf⟩ := hf
  refine xl_s0 (j := js) hjs hs_s C hP h1 dX7_shift_6 ?_
  refine lv_iload_n hx hb dX7_shift_7 rfl (lv_at hl 2 rfl) ?_
  refine lv_iadd hx hb dX7_shift_8 ?_
  replace hf := xsCk_use hf
  obtain ⟨h2, hf⟩ := hf
  refine xs_s0 (j := js) hjs hs_s (fun f' => (xsSu S js (f', sLy, sRx, sRy, sTi, sSz))) (fun f' => rfl) C hP hD hS h2 dX7_shift_9 (fun f3 ef3 H locs hP hD hS hz => ?_)
  clear hz
  replace hf := xsLt_use ef3 hf
  refine lv_aload_n hx hb dX7_shift_10 rfl (lv_at hl 0 rfl) ?_
  refine xg_X7_18 (j := js) hjs C hP dX7_shift_11 ?_
  refine lv_iload_n hx hb dX7_shift_14 rfl (lv_at hl 1 rfl) ?_
  refine lv_dup2_11 hx hb dX7_shift_15 rfl rfl ?_
  replace hf := xsCk_use hf
  obtain ⟨h4, hf⟩ := hf
  refine xl_s2 (j := js) hjs (xsSu_eq _ _ _) C hP h4 dX7_shift_16 ?_
  refine lv_iload_n hx hb dX7_shift_17 rfl (lv_at hl 2 rfl) ?_
  refine lv_iadd hx hb dX7_shift_18 ?_
  replace hf := xsCk_use hf
  obtain ⟨h5, hf⟩ := hf
  refine xs_s2 (j := js) hjs (xsSu_eq _ _ _) (fun f' => (xsSu S js (f3, sLy, f', sRy, sTi, sSz))) (fun f' => (xsSu_up _ _ _ _)) C hP hD hS h5 dX7_shift_19 (fun f6 ef6 H locs hP hD hS hz => ?_)
  clear hz
  replace hf := xsLt_use ef6 hf
  refine lv_aload_n hx hb dX7_shift_20 rfl (lv_at hl 0 rfl) ?_
  refine xg_X7_15 (j := js) hjs C hP dX7_shift_21 ?_
  refine lv_iload_n hx hb dX7_shift_24 rfl (lv_at hl 1 rfl) ?_
  refine lv_dup2_11 hx hb dX7_shift_25 rfl rfl ?_
  replace hf := xsCk_use hf
  obtain ⟨h7, hf⟩ := hf
  refine xl_s1 (j := js) hjs (xsSu_eq _ _ _) C hP h7 dX7_shift_26 ?_
  refine lv_iload_n hx hb dX7_shift_27 rfl (lv_at hl 3 rfl) ?_
  refine lv_iadd hx hb dX7_shift_28 ?_
  replace hf := xsCk_use hf
  obtain ⟨h8, hf⟩ := hf
  refine xs_s1 (j := js) hjs (xsSu_eq _ _ _) (fun f' => (xsSu S js (f3, f', f6, sRy, sTi, sSz))) (fun f' => (xsSu_up _ _ _ _)) C hP hD hS h8 dX7_shift_29 (fun f9 ef9 H locs hP hD hS hz => ?_)
  clear hz
  replace hf := xsLt_use ef9 hf
  refine lv_aload_n hx hb dX7_shift_30 rfl (lv_at hl 0 rfl) ?_
  refine xg_X7_21 (j := js) hjs C hP dX7_shift_31 ?_
  refine lv_iload_n hx hb dX7_shift_34 rfl (lv_at hl 1 rfl) ?_
  refine lv_dup2_11 hx hb dX7_shift_35 rfl rfl ?_
  replace hf := xsCk_use hf
  obtain ⟨h10, hf⟩ := hf
  refine xl_s3 (j := js) hjs (xsSu_eq _ _ _) C hP h10 dX7_shift_36 ?_
  refine lv_iload_n hx hb dX7_shift_37 rfl (lv_at hl 3 rfl) ?_
  refine lv_iadd hx hb dX7_shift_38 ?_
  replace hf := xsCk_use hf
  obtain ⟨h11, hf⟩ := hf
  refine xs_s3 (j := js) hjs (xsSu_eq _ _ _) (fun f' => (xsSu S js (f3, f9, f6, f', sTi, sSz))) (fun f' => (xsSu_up _ _ _ _)) C hP hD hS h11 dX7_shift_39 (fun f12 ef12 H locs hP hD hS hz => ?_)
  clear hz
  replace hf := xsLt_use ef12 hf
  have ho := Option.some.inj hf
  subst ho
  rw [hQq]
  exact xs_vret C hr hlk hP hD hS dX7_shift_40
set_option maxRecDepth 100000 in
set_option maxHeartbeats 8000000 in
theorem mX7_rotate (l : Launch) {X : xsX} {kIsKept kIsStale hiLatest hiSize scLength scFault scAt scNumber piSegmentsNow enKind enFromX enFromY enToX enToY tiMeetingPairs tiAlongPairs tiSize evSize evCrossings evSegmentsNow grEdges grQueued huSize huBestX huBestY : Int32} {scBytes scTold tiTouching tiLyingAlong evBundle evCrossingOf evEventOf evLeftEvent evRightEvent grDegree grFar grQueue huX huY : Nat → Int32} {enX enY enLower : Int64} {evX evY evLower : Nat → Int64} {S : Nat → xsV} {Rw : va_W} {js : Nat} (hjs : js < 12) {sLx sLy sRx sRy sTi : Nat → Int32} {sSz : Int32} (hs_s : S js = (sLx, sLy, sRx, sRy, sTi, sSz)) {out : (Nat → Int32) × (Nat → Int32) × (Nat → Int32) × (Nat → Int32)} (hf : fX7_rotate sLx sLy sRx sRy sSz = some out) : Met l yX7_rotate (xsWs yX7_rotate cX7_rotate 2 none) { frames := 1, cells := 0, slots := 0, locals := 26 } (xsP X (wK X kIsKept kIsStale hiLatest hiSize scBytes scTold scLength scFault scAt scNumber piSegmentsNow enKind enX enY enLower enFromX enFromY enToX enToY tiTouching tiLyingAlong tiMeetingPairs tiAlongPairs tiSize evX evY evLower evBundle evCrossingOf evEventOf evLeftEvent evRightEvent evSize evCrossings evSegmentsNow grDegree grEdges grFar grQueue grQueued huX huY huSize huBestX huBestY S Rw) [.ref (xsA X (27 + 6 * js))]) (xsQv X (wK X kIsKept kIsStale hiLatest hiSize scBytes scTold scLength scFault scAt scNumber piSegmentsNow enKind enX enY enLower enFromX enFromY enToX enToY tiTouching tiLyingAlong tiMeetingPairs tiAlongPairs tiSize evX evY evLower evBundle evCrossingOf evEventOf evLeftEvent evRightEvent evSize evCrossings evSegmentsNow grDegree grEdges grFar grQueue grQueued huX huY huSize huBestX huBestY (xsSu S js (out.1, out.2.1, out.2.2.1, out.2.2.2, sTi, sSz)) Rw)) 0 0 (xsF X) := by
  refine xs_meth RX7 (by decide) rfl (Nat.le_of_ble_eq_true rfl) ?_
  intro p e s m below meth c ls H locs C hP hD hS hr hlk hl
  have hx := C.1
  have hb := C.2.1
  have hl : lv_has ls 2 [(0, .ref (xsA X (27 + 6 * js)))] := hl
  obtain ⟨Qq, hQq⟩ : ∃ Qq, Qq = xsQv X (wK X kIsKept kIsStale hiLatest hiSize scBytes scTold scLength scFault scAt scNumber piSegmentsNow enKind enX enY enLower enFromX enFromY enToX enToY tiTouching tiLyingAlong tiMeetingPairs tiAlongPairs tiSize evX evY evLower evBundle evCrossingOf evEventOf evLeftEvent evRightEvent evSize evCrossings evSegmentsNow grDegree grEdges grFar grQueue grQueued huX huY huSize huBestX huBestY (xsSu S js (out.1, out.2.1, out.2.2.1, out.2.2.2, sTi, sSz)) Rw) := ⟨_, rfl⟩
  rw [← hQq]
  unfold fX7_rotate at hf
  refine lv_iconst (v := (0 : Int32)) hx hb dX7_rotate_0 (by decide) ?_
  refine lv_istore_n (lv' := [(1, .int (0 : Int32)), (0, .ref (xsA X (27 + 6 * js)))]) hx hb dX7_rotate_1 rfl hl (by decide) rfl (fun ls hl => ?_)
  have K6 : ∀ (y7 : Nat → Int32) (y8 : Nat → Int32) (y9 : Nat → Int32) (y10 : Nat → Int32) (hf : fX7_rotate_J47 y7 y8 y9 y10 = some out) (H : Heap) (locs : List Loc) (ls : Array Slot), va_P (xsD X) vwCl (wK X kIsKept kIsStale hiLatest hiSize scBytes scTold scLength scFault scAt scNumber piSegmentsNow enKind enX enY enLower enFromX enFromY enToX enToY tiTouching tiLyingAlong tiMeetingPairs tiAlongPairs tiSize evX evY evLower evBundle evCrossingOf evEventOf evLeftEvent evRightEvent evSize evCrossings evSegmentsNow grDegree grEdges grFar grQueue grQueued huX huY huSize huBestX huBestY (xsSu S js (y7, y8, y9, y10, sTi, sSz)) Rw) H → va_D (xsF X) (wK X kIsKept kIsStale hiLatest hiSize scBytes scTold scLength scFault scAt scNumber piSegmentsNow enKind enX enY enLower enFromX enFromY enToX enToY tiTouching tiLyingAlong tiMeetingPairs tiAlongPairs tiSize evX evY evLower evBundle evCrossingOf evEventOf evLeftEvent evRightEvent evSize evCrossings evSegmentsNow grDegree grEdges grFar grQueue grQueued huX huY huSize huBestX huBestY (xsSu S js (y7, y8, y9, y10, sTi, sSz)) Rw) → va_S (xsF X) s.heap H locs → lv_has ls 2 [] → W p l e { frames := 1, cells := 0, slots := 0, locals := 26 } s m ([.ref (xsA X (27 + 6 * js))] : List Value).toArray below meth c H locs 0 0 (MQ below Qq ([.ref (xsA X (27 + 6 * js))] : List Value).toArray s 0 0 (xsF X)) (F0 m 47 ls []) := by
    intro y7 y8 y9 y10 hf H locs ls hP hD hS hl
    unfold fX7_rotate_J47 at hf
    have ho := Option.some.inj hf
    subst ho
    rw [hQq]
    exact xs_vret C hr hlk hP hD hS dX7_rotate_47
  replace hf := xsBd_use hf
  obtain ⟨r6, hk60, hf⟩ := hf
  have L6 : ∀ (sg : Int32 × (Nat → Int32) × (Nat → Int32) × (Nat → Int32) × (Nat → Int32)) (rg : (Nat → Int32) × (Nat → Int32) × (Nat → Int32) × (Nat → Int32)), xsWh (fun s6 => fX7_rotate_L2 sSz s6.1 s6.2.1 s6.2.2.1 s6.2.2.2.1 s6.2.2.2.2) sg = some rg → (fX7_rotate_J47 rg.1 rg.2.1 rg.2.2.1 rg.2.2.2 = some out → ∀ (H : Heap) (locs : List Loc) (ls : Array Slot), va_P (xsD X) vwCl (wK X kIsKept kIsStale hiLatest hiSize scBytes scTold scLength scFault scAt scNumber piSegmentsNow enKind enX enY enLower enFromX enFromY enToX enToY tiTouching tiLyingAlong tiMeetingPairs tiAlongPairs tiSize evX evY evLower evBundle evCrossingOf evEventOf evLeftEvent evRightEvent evSize evCrossings evSegmentsNow grDegree grEdges grFar grQueue grQueued huX huY huSize huBestX huBestY (xsSu S js (sg.2.1, sg.2.2.1, sg.2.2.2.1, sg.2.2.2.2, sTi, sSz)) Rw) H → va_D (xsF X) (wK X kIsKept kIsStale hiLatest hiSize scBytes scTold scLength scFault scAt scNumber piSegmentsNow enKind enX enY enLower enFromX enFromY enToX enToY tiTouching tiLyingAlong tiMeetingPairs tiAlongPairs tiSize evX evY evLower evBundle evCrossingOf evEventOf evLeftEvent evRightEvent evSize evCrossings evSegmentsNow grDegree grEdges grFar grQueue grQueued huX huY huSize huBestX huBestY (xsSu S js (sg.2.1, sg.2.2.1, sg.2.2.2.1, sg.2.2.2.2, sTi, sSz)) Rw) → va_S (xsF X) s.heap H locs → lv_has ls 2 [(0, .ref (xsA X (27 + 6 * js))), (1, .int sg.1)] → W p l e { frames := 1, cells := 0, slots := 0, locals := 26 } s m ([.ref (xsA X (27 + 6 * js))] : List Value).toArray below meth c H locs 0 0 (MQ below Qq ([.ref (xsA X (27 + 6 * js))] : List Value).toArray s 0 0 (xsF X)) (F0 m 2 ls [])) := by
    refine xsWh_ind ?_
    intro sg r6 u6 hf ih6 hx6 hk6 H locs ls hP hD hS hl
    obtain ⟨y1, y2, y3, y4, y5⟩ := sg
    replace hf : fX7_rotate_L2 sSz y1 y2 y3 y4 y5 = some u6 := hf
    replace hl : lv_has ls 2 [(0, .ref (xsA X (27 + 6 * js))), (1, .int y1)] := hl
    replace hP : va_P (xsD X) vwCl (wK X kIsKept kIsStale hiLatest hiSize scBytes scTold scLength scFault scAt scNumber piSegmentsNow enKind enX enY enLower enFromX enFromY enToX enToY tiTouching tiLyingAlong tiMeetingPairs tiAlongPairs tiSize evX evY evLower evBundle evCrossingOf evEventOf evLeftEvent evRightEvent evSize evCrossings evSegmentsNow grDegree grEdges grFar grQueue grQueued huX huY huSize huBestX huBestY (xsSu S js (y2, y3, y4, y5, sTi, sSz)) Rw) H := hP
    replace hD : va_D (xsF X) (wK X kIsKept kIsStale hiLatest hiSize scBytes scTold scLength scFault scAt scNumber piSegmentsNow enKind enX enY enLower enFromX enFromY enToX enToY tiTouching tiLyingAlong tiMeetingPairs tiAlongPairs tiSize evX evY evLower evBundle evCrossingOf evEventOf evLeftEvent evRightEvent evSize evCrossings evSegmentsNow grDegree grEdges grFar grQueue grQueued huX huY huSize huBestX huBestY (xsSu S js (y2, y3, y4, y5, sTi, sSz)) Rw) := hD
    unfold fX7_rotate_L2 at hf
    refine lv_iload_n hx hb dX7_rotate_2 rfl (lv_at hl 1 rfl) ?_
    refine lv_aload_n hx hb dX7_rotate_3 rfl (lv_at hl 0 rfl) ?_
    refine xg_X7_27 (j := js) hjs (xsSu_eq _ _ _) C hP dX7_rotate_4 ?_
    refine lv_icmp_ge (tgt := 47) hx hb dX7_rotate_7 (by decide) (fun c18 => ?_) (fun c18 => ?_)
    · replace hf := xsBr_t c18 hf
      have ez := hx6 _ (Option.some.inj hf).symm
      subst ez
      exact K6 y2 y3 y4 y5 hk6 H locs ls hP hD hS (lv_sub hl [] rfl)
    · replace hf := xsBr_f c18 hf
      refine lv_aload_n hx hb dX7_rotate_10 rfl (lv_at hl 0 rfl) ?_
      refine lv_iload_n hx hb dX7_rotate_11 rfl (lv_at hl 1 rfl) ?_
      refine lv_aload_n hx hb dX7_rotate_12 rfl (lv_at hl 0 rfl) ?_
      refine xg_X7_15 (j := js) hjs C hP dX7_rotate_13 ?_
      refine lv_iload_n hx hb dX7_rotate_16 rfl (lv_at hl 1 rfl) ?_
      replace hf := xsCk_use hf
      obtain ⟨h11, hf⟩ := hf
      refine xl_s1 (j := js) hjs (xsSu_eq _ _ _) C hP h11 dX7_rotate_17 ?_
      refine lv_ineg hx hb dX7_rotate_18 ?_
      refine lv_aload_n hx hb dX7_rotate_19 rfl (lv_at hl 0 rfl) ?_
      refine xg_X7_9 (j := js) hjs C hP dX7_rotate_20 ?_
      refine lv_iload_n hx hb dX7_rotate_23 rfl (lv_at hl 1 rfl) ?_
      replace hf := xsCk_use hf
      obtain ⟨h12, hf⟩ := hf
      refine xl_s0 (j := js) hjs (xsSu_eq _ _ _) C hP h12 dX7_rotate_24 ?_
      refine lv_aload_n hx hb dX7_rotate_25 rfl (lv_at hl 0 rfl) ?_
      refine xg_X7_21 (j := js) hjs C hP dX7_rotate_26 ?_
      refine lv_iload_n hx hb dX7_rotate_29 rfl (lv_at hl 1 rfl) ?_
      replace hf := xsCk_use hf
      obtain ⟨h13, hf⟩ := hf
      refine xl_s3 (j := js) hjs (xsSu_eq _ _ _) C hP h13 dX7_rotate_30 ?_
      refine lv_ineg hx hb dX7_rotate_31 ?_
      refine lv_aload_n hx hb dX7_rotate_32 rfl (lv_at hl 0 rfl) ?_
      refine xg_X7_18 (j := js) hjs C hP dX7_rotate_33 ?_
      refine lv_iload_n hx hb dX7_rotate_36 rfl (lv_at hl 1 rfl) ?_
      replace hf := xsCk_use hf
      obtain ⟨h14, hf⟩ := hf
      refine xl_s2 (j := js) hjs (xsSu_eq _ _ _) C hP h14 dX7_rotate_37 ?_
      replace hf := xsBd_use hf
      obtain ⟨o15, h16, hf⟩ := hf
      refine xs_callv hS (xs_runV (As := [.int y1, .int (-(y3 y1.toNatClampNeg)), .int (y2 y1.toNatClampNeg), .int (-(y5 y1.toNatClampNeg)), .int (y4 y1.toNatClampNeg)]) C (mX7_put l (js := js) hjs (xsSu_eq _ _ _) h16) w_531 w_532 w_533 w_106 w_534 hd_X7_put ⟨rfl, rfl, Nat.le_of_ble_eq_true rfl, Nat.le_of_ble_eq_true rfl, Nat.zero_le _, Nat.zero_le _⟩ hP hD hS (xs_lkS hjs) rfl hl.1 rfl (Nat.le_of_ble_eq_true rfl) dX7_rotate_38) (fun H locs hP hD hS => ?_)
      rw [xsSu_up] at hP hD
      obtain ⟨x17, ex17⟩ : ∃ y : Int32, y = y1 + (1 : Int32) := ⟨_, rfl⟩
      replace hf := xsLt_use ex17 hf
      refine lv_iinc (v := x17) (lv' := [(1, .int x17), (0, .ref (xsA X (27 + 6 * js)))]) hx hb dX7_rotate_41 hl (k := 1) rfl (by rw [ex17]; rfl) (by decide) rfl (fun ls hl => ?_)
      refine lv_goto (tgt := 2) hx hb dX7_rotate_44 (by decide) ?_
      exact ih6 _ (Option.some.inj hf).symm hk6 H locs ls hP hD hS (lv_sub hl [1, 0] rfl)
  rw [← xsSu_self (hs_s)] at hP hD
  exact L6 ((0 : Int32), sLx, sLy, sRx, sRy) r6 hk60 hf H locs ls hP hD hS (lv_sub hl [1, 0] rfl)
set_option maxRecDepth 100000 in
set_option maxHeartbeats 8000000 in
theorem mX7_copyOne_v1 (l : Launch) {X : xsX} {kIsKept kIsStale hiLatest hiSize scLength scFault scAt scNumber piSegmentsNow enKind enFromX enFromY enToX enToY tiMeetingPairs tiAlongPairs tiSize evSize evCrossings evSegmentsNow grEdges grQueued huSize huBestX huBestY : Int32} {scBytes scTold tiTouching tiLyingAlong evBundle evCrossingOf evEventOf evLeftEvent evRightEvent grDegree grFar grQueue huX huY : Nat → Int32} {enX enY enLower : Int64} {evX evY evLower : Nat → Int64} {S : Nat → xsV} {Rw : va_W} {js : Nat} (hjs : js < 12) {jo : Nat} (hjo : jo < 12) (hso : jo ≠ js) {sLx sLy sRx sRy sTi : Nat → Int32} {sSz : Int32} (hs_s : S js = (sLx, sLy, sRx, sRy, sTi, sSz)) {oLx oLy oRx oRy oTi : Nat → Int32} {oSz : Int32} (hs_o : S jo = (oLx, oLy, oRx, oRy, oTi, oSz)) {a0 : Int32} {a2 : Int32} {out : (Nat → Int32) × (Nat → Int32) × (Nat → Int32) × (Nat → Int32) × (Nat → Int32)} (hf : fX7_copyOne_v1 sLx sLy sRx sRy sTi oLx oLy oRx oRy oTi a0 a2 = some out) : Met l yX7_copyOne (xsWs yX7_copyOne cX7_copyOne 4 none) { frames := 0, cells := 0, slots := 0, locals := 0 } (xsP X (wK X kIsKept kIsStale hiLatest hiSize scBytes scTold scLength scFault scAt scNumber piSegmentsNow enKind enX enY enLower enFromX enFromY enToX enToY tiTouching tiLyingAlong tiMeetingPairs tiAlongPairs tiSize evX evY evLower evBundle evCrossingOf evEventOf evLeftEvent evRightEvent evSize evCrossings evSegmentsNow grDegree grEdges grFar grQueue grQueued huX huY huSize huBestX huBestY S Rw) [.ref (xsA X (27 + 6 * js)), .int a0, .ref (xsA X (27 + 6 * jo)), .int a2]) (xsQv X (wK X kIsKept kIsStale hiLatest hiSize scBytes scTold scLength scFault scAt scNumber piSegmentsNow enKind enX enY enLower enFromX enFromY enToX enToY tiTouching tiLyingAlong tiMeetingPairs tiAlongPairs tiSize evX evY evLower evBundle evCrossingOf evEventOf evLeftEvent evRightEvent evSize evCrossings evSegmentsNow grDegree grEdges grFar grQueue grQueued huX huY huSize huBestX huBestY (xsSu S js (out.1, out.2.1, out.2.2.1, out.2.2.2.1, out.2.2.2.2, sSz)) Rw)) 0 0 (xsF X) := by
  refine xs_meth RX7 (by decide) rfl (Nat.le_of_ble_eq_true rfl) ?_
  intro p e s m below meth c ls H locs C hP hD hS hr hlk hl
  have hx := C.1
  have hb := C.2.1
  have hl : lv_has ls 4 [(0, .ref (xsA X (27 + 6 * js))), (1, .int a0), (2, .ref (xsA X (27 + 6 * jo))), (3, .int a2)] := hl
  obtain ⟨Qq, hQq⟩ : ∃ Qq, Qq = xsQv X (wK X kIsKept kIsStale hiLatest hiSize scBytes scTold scLength scFault scAt scNumber piSegmentsNow enKind enX enY enLower enFromX enFromY enToX enToY tiTouching tiLyingAlong tiMeetingPairs tiAlongPairs tiSize evX evY evLower evBundle evCrossingOf evEventOf evLeftEvent evRightEvent evSize evCrossings evSegmentsNow grDegree grEdges grFar grQueue grQueued huX huY huSize huBestX huBestY (xsSu S js (out.1, out.2.1, out.2.2.1, out.2.2.2.1, out.2.2.2.2, sSz)) Rw) := ⟨_, rfl⟩
  rw [← hQq]
  unfold fX7_copyOne_v1 at hf
  refine lv_aload_n hx hb dX7_copyOne_0 rfl (lv_at hl 0 rfl) ?_
  refine xg_X7_9 (j := js) hjs C hP dX7_copyOne_1 ?_
  refine lv_iload_n hx hb dX7_copyOne_4 rfl (lv_at hl 1 rfl) ?_
  refine lv_aload_n hx hb dX7_copyOne_5 rfl (lv_at hl 2 rfl) ?_
  refine xg_X7_9 (j := jo) hjo C hP dX7_copyOne_6 ?_
  refine lv_iload_n hx hb dX7_copyOne_9 rfl (lv_at hl 3 rfl) ?_
  replace hf := xsCk_use hf
  obtain ⟨h1, hf⟩ := hf
  refine xl_s0 (j := jo) hjo hs_o C hP h1 dX7_copyOne_10 ?_
  replace hf := xsCk_use hf
  obtain ⟨h2, hf⟩ := hf
  refine xs_s0 (j := js) hjs hs_s (fun f' => (xsSu S js (f', sLy, sRx, sRy, sTi, sSz))) (fun f' => rfl) C hP hD hS h2 dX7_copyOne_11 (fun f3 ef3 H locs hP hD hS hz => ?_)
  clear hz
  replace hf := xsLt_use ef3 hf
  refine lv_aload_n hx hb dX7_copyOne_12 rfl (lv_at hl 0 rfl) ?_
  refine xg_X7_15 (j := js) hjs C hP dX7_copyOne_13 ?_
  refine lv_iload_n hx hb dX7_copyOne_16 rfl (lv_at hl 1 rfl) ?_
  refine lv_aload_n hx hb dX7_copyOne_17 rfl (lv_at hl 2 rfl) ?_
  refine xg_X7_15 (j := jo) hjo C hP dX7_copyOne_18 ?_
  refine lv_iload_n hx hb dX7_copyOne_21 rfl (lv_at hl 3 rfl) ?_
  replace hf := xsCk_use hf
  obtain ⟨h4, hf⟩ := hf
  refine xl_s1 (j := jo) hjo ((xsSu_ne hso).trans (hs_o)) C hP h4 dX7_copyOne_22 ?_
  replace hf := xsCk_use hf
  obtain ⟨h5, hf⟩ := hf
  refine xs_s1 (j := js) hjs (xsSu_eq _ _ _) (fun f' => (xsSu S js (f3, f', sRx, sRy, sTi, sSz))) (fun f' => (xsSu_up _ _ _ _)) C hP hD hS h5 dX7_copyOne_23 (fun f6 ef6 H locs hP hD hS hz => ?_)
  clear hz
  replace hf := xsLt_use ef6 hf
  refine lv_aload_n hx hb dX7_copyOne_24 rfl (lv_at hl 0 rfl) ?_
  refine xg_X7_18 (j := js) hjs C hP dX7_copyOne_25 ?_
  refine lv_iload_n hx hb dX7_copyOne_28 rfl (lv_at hl 1 rfl) ?_
  refine lv_aload_n hx hb dX7_copyOne_29 rfl (lv_at hl 2 rfl) ?_
  refine xg_X7_18 (j := jo) hjo C hP dX7_copyOne_30 ?_
  refine lv_iload_n hx hb dX7_copyOne_33 rfl (lv_at hl 3 rfl) ?_
  replace hf := xsCk_use hf
  obtain ⟨h7, hf⟩ := hf
  refine xl_s2 (j := jo) hjo ((xsSu_ne hso).trans (hs_o)) C hP h7 dX7_copyOne_34 ?_
  replace hf := xsCk_use hf
  obtain ⟨h8, hf⟩ := hf
  refine xs_s2 (j := js) hjs (xsSu_eq _ _ _) (fun f' => (xsSu S js (f3, f6, f', sRy, sTi, sSz))) (fun f' => (xsSu_up _ _ _ _)) C hP hD hS h8 dX7_copyOne_35 (fun f9 ef9 H locs hP hD hS hz => ?_)
  clear hz
  replace hf := xsLt_use ef9 hf
  refine lv_aload_n hx hb dX7_copyOne_36 rfl (lv_at hl 0 rfl) ?_
  refine xg_X7_21 (j := js) hjs C hP dX7_copyOne_37 ?_
  refine lv_iload_n hx hb dX7_copyOne_40 rfl (lv_at hl 1 rfl) ?_
  refine lv_aload_n hx hb dX7_copyOne_41 rfl (lv_at hl 2 rfl) ?_
  refine xg_X7_21 (j := jo) hjo C hP dX7_copyOne_42 ?_
  refine lv_iload_n hx hb dX7_copyOne_45 rfl (lv_at hl 3 rfl) ?_
  replace hf := xsCk_use hf
  obtain ⟨h10, hf⟩ := hf
  refine xl_s3 (j := jo) hjo ((xsSu_ne hso).trans (hs_o)) C hP h10 dX7_copyOne_46 ?_
  replace hf := xsCk_use hf
  obtain ⟨h11, hf⟩ := hf
  refine xs_s3 (j := js) hjs (xsSu_eq _ _ _) (fun f' => (xsSu S js (f3, f6, f9, f', sTi, sSz))) (fun f' => (xsSu_up _ _ _ _)) C hP hD hS h11 dX7_copyOne_47 (fun f12 ef12 H locs hP hD hS hz => ?_)
  clear hz
  replace hf := xsLt_use ef12 hf
  refine lv_aload_n hx hb dX7_copyOne_48 rfl (lv_at hl 0 rfl) ?_
  refine xg_X7_24 (j := js) hjs C hP dX7_copyOne_49 ?_
  refine lv_iload_n hx hb dX7_copyOne_52 rfl (lv_at hl 1 rfl) ?_
  refine lv_aload_n hx hb dX7_copyOne_53 rfl (lv_at hl 2 rfl) ?_
  refine xg_X7_24 (j := jo) hjo C hP dX7_copyOne_54 ?_
  refine lv_iload_n hx hb dX7_copyOne_57 rfl (lv_at hl 3 rfl) ?_
  replace hf := xsCk_use hf
  obtain ⟨h13, hf⟩ := hf
  refine xl_s4 (j := jo) hjo ((xsSu_ne hso).trans (hs_o)) C hP h13 dX7_copyOne_58 ?_
  replace hf := xsCk_use hf
  obtain ⟨h14, hf⟩ := hf
  refine xs_s4 (j := js) hjs (xsSu_eq _ _ _) (fun f' => (xsSu S js (f3, f6, f9, f12, f', sSz))) (fun f' => (xsSu_up _ _ _ _)) C hP hD hS h14 dX7_copyOne_59 (fun f15 ef15 H locs hP hD hS hz => ?_)
  clear hz
  replace hf := xsLt_use ef15 hf
  have ho := Option.some.inj hf
  subst ho
  rw [hQq]
  exact xs_vret C hr hlk hP hD hS dX7_copyOne_60
set_option maxRecDepth 100000 in
set_option maxHeartbeats 8000000 in
theorem mX7_copyFrom (l : Launch) {X : xsX} {kIsKept kIsStale hiLatest hiSize scLength scFault scAt scNumber piSegmentsNow enKind enFromX enFromY enToX enToY tiMeetingPairs tiAlongPairs tiSize evSize evCrossings evSegmentsNow grEdges grQueued huSize huBestX huBestY : Int32} {scBytes scTold tiTouching tiLyingAlong evBundle evCrossingOf evEventOf evLeftEvent evRightEvent grDegree grFar grQueue huX huY : Nat → Int32} {enX enY enLower : Int64} {evX evY evLower : Nat → Int64} {S : Nat → xsV} {Rw : va_W} {js : Nat} (hjs : js < 12) {jo : Nat} (hjo : jo < 12) (hso : jo ≠ js) {sLx sLy sRx sRy sTi : Nat → Int32} {sSz : Int32} (hs_s : S js = (sLx, sLy, sRx, sRy, sTi, sSz)) {oLx oLy oRx oRy oTi : Nat → Int32} {oSz : Int32} (hs_o : S jo = (oLx, oLy, oRx, oRy, oTi, oSz)) {out : (Nat → Int32) × (Nat → Int32) × (Nat → Int32) × (Nat → Int32) × (Nat → Int32) × Int32} (hf : fX7_copyFrom sLx sLy sRx sRy sTi sSz oLx oLy oRx oRy oTi oSz = some out) : Met l yX7_copyFrom (xsWs yX7_copyFrom cX7_copyFrom 3 none) { frames := 1, cells := 0, slots := 0, locals := 23 } (xsP X (wK X kIsKept kIsStale hiLatest hiSize scBytes scTold scLength scFault scAt scNumber piSegmentsNow enKind enX enY enLower enFromX enFromY enToX enToY tiTouching tiLyingAlong tiMeetingPairs tiAlongPairs tiSize evX evY evLower evBundle evCrossingOf evEventOf evLeftEvent evRightEvent evSize evCrossings evSegmentsNow grDegree grEdges grFar grQueue grQueued huX huY huSize huBestX huBestY S Rw) [.ref (xsA X (27 + 6 * js)), .ref (xsA X (27 + 6 * jo))]) (xsQv X (wK X kIsKept kIsStale hiLatest hiSize scBytes scTold scLength scFault scAt scNumber piSegmentsNow enKind enX enY enLower enFromX enFromY enToX enToY tiTouching tiLyingAlong tiMeetingPairs tiAlongPairs tiSize evX evY evLower evBundle evCrossingOf evEventOf evLeftEvent evRightEvent evSize evCrossings evSegmentsNow grDegree grEdges grFar grQueue grQueued huX huY huSize huBestX huBestY (xsSu S js (out.1, out.2.1, out.2.2.1, out.2.2.2.1, out.2.2.2.2.1, out.2.2.2.2.2)) Rw)) 0 0 (xsF X) := by
  refine xs_meth RX7 (by decide) rfl (Nat.le_of_ble_eq_true rfl) ?_
  intro p e s m below meth c ls H locs C hP hD hS hr hlk hl
  have hx := C.1
  have hb := C.2.1
  have hl : lv_has ls 3 [(0, .ref (xsA X (27 + 6 * js))), (1, .ref (xsA X (27 + 6 * jo)))] := hl
  obtain ⟨Qq, hQq⟩ : ∃ Qq, Qq = xsQv X (wK X kIsKept kIsStale hiLatest hiSize scBytes scTold scLength scFault scAt scNumber piSegmentsNow enKind enX enY enLower enFromX enFromY enToX enToY tiTouching tiLyingAlong tiMeetingPairs tiAlongPairs tiSize evX evY evLower evBundle evCrossingOf evEventOf evLeftEvent evRightEvent evSize evCrossings evSegmentsNow grDegree grEdges grFar grQueue grQueued huX huY huSize huBestX huBestY (xsSu S js (out.1, out.2.1, out.2.2.1, out.2.2.2.1, out.2.2.2.2.1, out.2.2.2.2.2)) Rw) := ⟨_, rfl⟩
  rw [← hQq]
  unfold fX7_copyFrom at hf
  refine lv_iconst (v := (0 : Int32)) hx hb dX7_copyFrom_0 (by decide) ?_
  refine lv_istore_n (lv' := [(2, .int (0 : Int32)), (0, .ref (xsA X (27 + 6 * js))), (1, .ref (xsA X (27 + 6 * jo)))]) hx hb dX7_copyFrom_1 rfl hl (by decide) rfl (fun ls hl => ?_)
  have K7 : ∀ (y8 : Nat → Int32) (y9 : Nat → Int32) (y10 : Nat → Int32) (y11 : Nat → Int32) (y12 : Nat → Int32) (hf : fX7_copyFrom_J23 oSz y8 y9 y10 y11 y12 = some out) (H : Heap) (locs : List Loc) (ls : Array Slot), va_P (xsD X) vwCl (wK X kIsKept kIsStale hiLatest hiSize scBytes scTold scLength scFault scAt scNumber piSegmentsNow enKind enX enY enLower enFromX enFromY enToX enToY tiTouching tiLyingAlong tiMeetingPairs tiAlongPairs tiSize evX evY evLower evBundle evCrossingOf evEventOf evLeftEvent evRightEvent evSize evCrossings evSegmentsNow grDegree grEdges grFar grQueue grQueued huX huY huSize huBestX huBestY (xsSu S js (y8, y9, y10, y11, y12, sSz)) Rw) H → va_D (xsF X) (wK X kIsKept kIsStale hiLatest hiSize scBytes scTold scLength scFault scAt scNumber piSegmentsNow enKind enX enY enLower enFromX enFromY enToX enToY tiTouching tiLyingAlong tiMeetingPairs tiAlongPairs tiSize evX evY evLower evBundle evCrossingOf evEventOf evLeftEvent evRightEvent evSize evCrossings evSegmentsNow grDegree grEdges grFar grQueue grQueued huX huY huSize huBestX huBestY (xsSu S js (y8, y9, y10, y11, y12, sSz)) Rw) → va_S (xsF X) s.heap H locs → lv_has ls 3 [(0, .ref (xsA X (27 + 6 * js))), (1, .ref (xsA X (27 + 6 * jo)))] → W p l e { frames := 1, cells := 0, slots := 0, locals := 23 } s m ([.ref (xsA X (27 + 6 * js)), .ref (xsA X (27 + 6 * jo))] : List Value).toArray below meth c H locs 0 0 (MQ below Qq ([.ref (xsA X (27 + 6 * js)), .ref (xsA X (27 + 6 * jo))] : List Value).toArray s 0 0 (xsF X)) (F0 m 23 ls []) := by
    intro y8 y9 y10 y11 y12 hf H locs ls hP hD hS hl
    unfold fX7_copyFrom_J23 at hf
    refine lv_aload_n hx hb dX7_copyFrom_23 rfl (lv_at hl 0 rfl) ?_
    refine lv_aload_n hx hb dX7_copyFrom_24 rfl (lv_at hl 1 rfl) ?_
    refine xg_X7_27 (j := jo) hjo ((xsSu_ne hso).trans (hs_o)) C hP dX7_copyFrom_25 ?_
    refine xp_X7_27 (j := js) hjs (xsSu_eq _ _ _) (S1 := (xsSu S js (y8, y9, y10, y11, y12, oSz))) (xsSu_up _ _ _ _) C hP hD hS dX7_copyFrom_28 (fun H locs hP hD hS hz => ?_)
    clear hz
    have ho := Option.some.inj hf
    subst ho
    rw [hQq]
    exact xs_vret C hr hlk hP hD hS dX7_copyFrom_31
  replace hf := xsBd_use hf
  obtain ⟨r7, hk70, hf⟩ := hf
  have L7 : ∀ (sg : Int32 × (Nat → Int32) × (Nat → Int32) × (Nat → Int32) × (Nat → Int32) × (Nat → Int32)) (rg : (Nat → Int32) × (Nat → Int32) × (Nat → Int32) × (Nat → Int32) × (Nat → Int32)), xsWh (fun s7 => fX7_copyFrom_L2 oLx oLy oRx oRy oTi oSz s7.1 s7.2.1 s7.2.2.1 s7.2.2.2.1 s7.2.2.2.2.1 s7.2.2.2.2.2) sg = some rg → (fX7_copyFrom_J23 oSz rg.1 rg.2.1 rg.2.2.1 rg.2.2.2.1 rg.2.2.2.2 = some out → ∀ (H : Heap) (locs : List Loc) (ls : Array Slot), va_P (xsD X) vwCl (wK X kIsKept kIsStale hiLatest hiSize scBytes scTold scLength scFault scAt scNumber piSegmentsNow enKind enX enY enLower enFromX enFromY enToX enToY tiTouching tiLyingAlong tiMeetingPairs tiAlongPairs tiSize evX evY evLower evBundle evCrossingOf evEventOf evLeftEvent evRightEvent evSize evCrossings evSegmentsNow grDegree grEdges grFar grQueue grQueued huX huY huSize huBestX huBestY (xsSu S js (sg.2.1, sg.2.2.1, sg.2.2.2.1, sg.2.2.2.2.1, sg.2.2.2.2.2, sSz)) Rw) H → va_D (xsF X) (wK X kIsKept kIsStale hiLatest hiSize scBytes scTold scLength scFault scAt scNumber piSegmentsNow enKind enX enY enLower enFromX enFromY enToX enToY tiTouching tiLyingAlong tiMeetingPairs tiAlongPairs tiSize evX evY evLower evBundle evCrossingOf evEventOf evLeftEvent evRightEvent evSize evCrossings evSegmentsNow grDegree grEdges grFar grQueue grQueued huX huY huSize huBestX huBestY (xsSu S js (sg.2.1, sg.2.2.1, sg.2.2.2.1, sg.2.2.2.2.1, sg.2.2.2.2.2, sSz)) Rw) → va_S (xsF X) s.heap H locs → lv_has ls 3 [(0, .ref (xsA X (27 + 6 * js))), (1, .ref (xsA X (27 + 6 * jo))), (2, .int sg.1)] → W p l e { frames := 1, cells := 0, slots := 0, locals := 23 } s m ([.ref (xsA X (27 + 6 * js)), .ref (xsA X (27 + 6 * jo))] : List Value).toArray below meth c H locs 0 0 (MQ below Qq ([.ref (xsA X (27 + 6 * js)), .ref (xsA X (27 + 6 * jo))] : List Value).toArray s 0 0 (xsF X)) (F0 m 2 ls [])) := by
    refine xsWh_ind ?_
    intro sg r7 u7 hf ih7 hx7 hk7 H locs ls hP hD hS hl
    obtain ⟨y1, y2, y3, y4, y5, y6⟩ := sg
    replace hf : fX7_copyFrom_L2 oLx oLy oRx oRy oTi oSz y1 y2 y3 y4 y5 y6 = some u7 := hf
    replace hl : lv_has ls 3 [(0, .ref (xsA X (27 + 6 * js))), (1, .ref (xsA X (27 + 6 * jo))), (2, .int y1)] := hl
    replace hP : va_P (xsD X) vwCl (wK X kIsKept kIsStale hiLatest hiSize scBytes scTold scLength scFault scAt scNumber piSegmentsNow enKind enX enY enLower enFromX enFromY enToX enToY tiTouching tiLyingAlong tiMeetingPairs tiAlongPairs tiSize evX evY evLower evBundle evCrossingOf evEventOf evLeftEvent evRightEvent evSize evCrossings evSegmentsNow grDegree grEdges grFar grQueue grQueued huX huY huSize huBestX huBestY (xsSu S js (y2, y3, y4, y5, y6, sSz)) Rw) H := hP
    replace hD : va_D (xsF X) (wK X kIsKept kIsStale hiLatest hiSize scBytes scTold scLength scFault scAt scNumber piSegmentsNow enKind enX enY enLower enFromX enFromY enToX enToY tiTouching tiLyingAlong tiMeetingPairs tiAlongPairs tiSize evX evY evLower evBundle evCrossingOf evEventOf evLeftEvent evRightEvent evSize evCrossings evSegmentsNow grDegree grEdges grFar grQueue grQueued huX huY huSize huBestX huBestY (xsSu S js (y2, y3, y4, y5, y6, sSz)) Rw) := hD
    unfold fX7_copyFrom_L2 at hf
    refine lv_iload_n hx hb dX7_copyFrom_2 rfl (lv_at hl 2 rfl) ?_
    refine lv_aload_n hx hb dX7_copyFrom_3 rfl (lv_at hl 1 rfl) ?_
    refine xg_X7_27 (j := jo) hjo ((xsSu_ne hso).trans (hs_o)) C hP dX7_copyFrom_4 ?_
    refine lv_icmp_ge (tgt := 23) hx hb dX7_copyFrom_7 (by decide) (fun c16 => ?_) (fun c16 => ?_)
    · replace hf := xsBr_t c16 hf
      have ez := hx7 _ (Option.some.inj hf).symm
      subst ez
      exact K7 y2 y3 y4 y5 y6 hk7 H locs ls hP hD hS (lv_sub hl [0, 1] rfl)
    · replace hf := xsBr_f c16 hf
      refine lv_aload_n hx hb dX7_copyFrom_10 rfl (lv_at hl 0 rfl) ?_
      refine lv_iload_n hx hb dX7_copyFrom_11 rfl (lv_at hl 2 rfl) ?_
      refine lv_aload_n hx hb dX7_copyFrom_12 rfl (lv_at hl 1 rfl) ?_
      refine lv_iload_n hx hb dX7_copyFrom_13 rfl (lv_at hl 2 rfl) ?_
      replace hf := xsBd_use hf
      obtain ⟨o13, h14, hf⟩ := hf
      refine xs_callv hS (xs_runV (As := [.int y1, .ref (xsA X (27 + 6 * jo)), .int y1]) C (mX7_copyOne_v1 l (js := js) hjs (jo := jo) hjo hso (xsSu_eq _ _ _) ((xsSu_ne hso).trans (hs_o)) h14) w_520 w_522 w_1 w_106 w_523 hd_X7_copyOne ⟨rfl, rfl, Nat.le_of_ble_eq_true rfl, Nat.le_of_ble_eq_true rfl, Nat.zero_le _, Nat.zero_le _⟩ hP hD hS (xs_lkS hjs) rfl hl.1 rfl (Nat.le_of_ble_eq_true rfl) dX7_copyFrom_14) (fun H locs hP hD hS => ?_)
      rw [xsSu_up] at hP hD
      obtain ⟨x15, ex15⟩ : ∃ y : Int32, y = y1 + (1 : Int32) := ⟨_, rfl⟩
      replace hf := xsLt_use ex15 hf
      refine lv_iinc (v := x15) (lv' := [(2, .int x15), (0, .ref (xsA X (27 + 6 * js))), (1, .ref (xsA X (27 + 6 * jo)))]) hx hb dX7_copyFrom_17 hl (k := 2) rfl (by rw [ex15]; rfl) (by decide) rfl (fun ls hl => ?_)
      refine lv_goto (tgt := 2) hx hb dX7_copyFrom_20 (by decide) ?_
      exact ih7 _ (Option.some.inj hf).symm hk7 H locs ls hP hD hS (lv_sub hl [1, 2, 0] rfl)
  rw [← xsSu_self (hs_s)] at hP hD
  exact L7 ((0 : Int32), sLx, sLy, sRx, sRy, sTi) r7 hk70 hf H locs ls hP hD hS (lv_sub hl [1, 2, 0] rfl)
set_option maxRecDepth 100000 in
set_option maxHeartbeats 8000000 in
theorem mX7_width (l : Launch) {X : xsX} {kIsKept kIsStale hiLatest hiSize scLength scFault scAt scNumber piSegmentsNow enKind enFromX enFromY enToX enToY tiMeetingPairs tiAlongPairs tiSize evSize evCrossings evSegmentsNow grEdges grQueued huSize huBestX huBestY : Int32} {scBytes scTold tiTouching tiLyingAlong evBundle evCrossingOf evEventOf evLeftEvent evRightEvent grDegree grFar grQueue huX huY : Nat → Int32} {enX enY enLower : Int64} {evX evY evLower : Nat → Int64} {S : Nat → xsV} {Rw : va_W} {js : Nat} (hjs : js < 12) {sLx sLy sRx sRy sTi : Nat → Int32} {sSz : Int32} (hs_s : S js = (sLx, sLy, sRx, sRy, sTi, sSz)) {a0 : Int32} {out : Int64} (hf : fX7_width sLx sRx a0 = some out) : Met l yX7_width (xsWs yX7_width cX7_width 2 (some .long)) { frames := 0, cells := 0, slots := 0, locals := 0 } (xsP X (wK X kIsKept kIsStale hiLatest hiSize scBytes scTold scLength scFault scAt scNumber piSegmentsNow enKind enX enY enLower enFromX enFromY enToX enToY tiTouching tiLyingAlong tiMeetingPairs tiAlongPairs tiSize evX evY evLower evBundle evCrossingOf evEventOf evLeftEvent evRightEvent evSize evCrossings evSegmentsNow grDegree grEdges grFar grQueue grQueued huX huY huSize huBestX huBestY S Rw) [.ref (xsA X (27 + 6 * js)), .int a0]) (xsQl X out (wK X kIsKept kIsStale hiLatest hiSize scBytes scTold scLength scFault scAt scNumber piSegmentsNow enKind enX enY enLower enFromX enFromY enToX enToY tiTouching tiLyingAlong tiMeetingPairs tiAlongPairs tiSize evX evY evLower evBundle evCrossingOf evEventOf evLeftEvent evRightEvent evSize evCrossings evSegmentsNow grDegree grEdges grFar grQueue grQueued huX huY huSize huBestX huBestY S Rw)) 0 0 (xsF X) := by
  refine xs_meth RX7 (by decide) rfl (Nat.le_of_ble_eq_true rfl) ?_
  intro p e s m below meth c ls H locs C hP hD hS hr hlk hl
  have hx := C.1
  have hb := C.2.1
  have hl : lv_has ls 2 [(0, .ref (xsA X (27 + 6 * js))), (1, .int a0)] := hl
  obtain ⟨Qq, hQq⟩ : ∃ Qq, Qq = xsQl X out (wK X kIsKept kIsStale hiLatest hiSize scBytes scTold scLength scFault scAt scNumber piSegmentsNow enKind enX enY enLower enFromX enFromY enToX enToY tiTouching tiLyingAlong tiMeetingPairs tiAlongPairs tiSize evX evY evLower evBundle evCrossingOf evEventOf evLeftEvent evRightEvent evSize evCrossings evSegmentsNow grDegree grEdges grFar grQueue grQueued huX huY huSize huBestX huBestY S Rw) := ⟨_, rfl⟩
  rw [← hQq]
  unfold fX7_width at hf
  refine lv_aload_n hx hb dX7_width_0 rfl (lv_at hl 0 rfl) ?_
  refine xg_X7_18 (j := js) hjs C hP dX7_width_1 ?_
  refine lv_iload_n hx hb dX7_width_4 rfl (lv_at hl 1 rfl) ?_
  replace hf := xsCk_use hf
  obtain ⟨h1, hf⟩ := hf
  refine xl_s2 (j := js) hjs hs_s C hP h1 dX7_width_5 ?_
  refine lv_aload_n hx hb dX7_width_6 rfl (lv_at hl 0 rfl) ?_
  refine xg_X7_9 (j := js) hjs C hP dX7_width_7 ?_
  refine lv_iload_n hx hb dX7_width_10 rfl (lv_at hl 1 rfl) ?_
  replace hf := xsCk_use hf
  obtain ⟨h2, hf⟩ := hf
  refine xl_s0 (j := js) hjs hs_s C hP h2 dX7_width_11 ?_
  refine lv_isub hx hb dX7_width_12 ?_
  refine lv_i2l hx hb dX7_width_13 rfl ?_
  have ho := Option.some.inj hf
  subst ho
  rw [hQq]
  exact xs_lret C hr hlk hP hD hS dX7_width_14
set_option maxRecDepth 100000 in
set_option maxHeartbeats 8000000 in
theorem mX7_rise (l : Launch) {X : xsX} {kIsKept kIsStale hiLatest hiSize scLength scFault scAt scNumber piSegmentsNow enKind enFromX enFromY enToX enToY tiMeetingPairs tiAlongPairs tiSize evSize evCrossings evSegmentsNow grEdges grQueued huSize huBestX huBestY : Int32} {scBytes scTold tiTouching tiLyingAlong evBundle evCrossingOf evEventOf evLeftEvent evRightEvent grDegree grFar grQueue huX huY : Nat → Int32} {enX enY enLower : Int64} {evX evY evLower : Nat → Int64} {S : Nat → xsV} {Rw : va_W} {js : Nat} (hjs : js < 12) {sLx sLy sRx sRy sTi : Nat → Int32} {sSz : Int32} (hs_s : S js = (sLx, sLy, sRx, sRy, sTi, sSz)) {a0 : Int32} {out : Int64} (hf : fX7_rise sLy sRy a0 = some out) : Met l yX7_rise (xsWs yX7_rise cX7_rise 2 (some .long)) { frames := 0, cells := 0, slots := 0, locals := 0 } (xsP X (wK X kIsKept kIsStale hiLatest hiSize scBytes scTold scLength scFault scAt scNumber piSegmentsNow enKind enX enY enLower enFromX enFromY enToX enToY tiTouching tiLyingAlong tiMeetingPairs tiAlongPairs tiSize evX evY evLower evBundle evCrossingOf evEventOf evLeftEvent evRightEvent evSize evCrossings evSegmentsNow grDegree grEdges grFar grQueue grQueued huX huY huSize huBestX huBestY S Rw) [.ref (xsA X (27 + 6 * js)), .int a0]) (xsQl X out (wK X kIsKept kIsStale hiLatest hiSize scBytes scTold scLength scFault scAt scNumber piSegmentsNow enKind enX enY enLower enFromX enFromY enToX enToY tiTouching tiLyingAlong tiMeetingPairs tiAlongPairs tiSize evX evY evLower evBundle evCrossingOf evEventOf evLeftEvent evRightEvent evSize evCrossings evSegmentsNow grDegree grEdges grFar grQueue grQueued huX huY huSize huBestX huBestY S Rw)) 0 0 (xsF X) := by
  refine xs_meth RX7 (by decide) rfl (Nat.le_of_ble_eq_true rfl) ?_
  intro p e s m below meth c ls H locs C hP hD hS hr hlk hl
  have hx := C.1
  have hb := C.2.1
  have hl : lv_has ls 2 [(0, .ref (xsA X (27 + 6 * js))), (1, .int a0)] := hl
  obtain ⟨Qq, hQq⟩ : ∃ Qq, Qq = xsQl X out (wK X kIsKept kIsStale hiLatest hiSize scBytes scTold scLength scFault scAt scNumber piSegmentsNow enKind enX enY enLower enFromX enFromY enToX enToY tiTouching tiLyingAlong tiMeetingPairs tiAlongPairs tiSize evX evY evLower evBundle evCrossingOf evEventOf evLeftEvent evRightEvent evSize evCrossings evSegmentsNow grDegree grEdges grFar grQueue grQueued huX huY huSize huBestX huBestY S Rw) := ⟨_, rfl⟩
  rw [← hQq]
  unfold fX7_rise at hf
  refine lv_aload_n hx hb dX7_rise_0 rfl (lv_at hl 0 rfl) ?_
  refine xg_X7_21 (j := js) hjs C hP dX7_rise_1 ?_
  refine lv_iload_n hx hb dX7_rise_4 rfl (lv_at hl 1 rfl) ?_
  replace hf := xsCk_use hf
  obtain ⟨h1, hf⟩ := hf
  refine xl_s3 (j := js) hjs hs_s C hP h1 dX7_rise_5 ?_
  refine lv_aload_n hx hb dX7_rise_6 rfl (lv_at hl 0 rfl) ?_
  refine xg_X7_15 (j := js) hjs C hP dX7_rise_7 ?_
  refine lv_iload_n hx hb dX7_rise_10 rfl (lv_at hl 1 rfl) ?_
  replace hf := xsCk_use hf
  obtain ⟨h2, hf⟩ := hf
  refine xl_s1 (j := js) hjs hs_s C hP h2 dX7_rise_11 ?_
  refine lv_isub hx hb dX7_rise_12 ?_
  refine lv_i2l hx hb dX7_rise_13 rfl ?_
  have ho := Option.some.inj hf
  subst ho
  rw [hQq]
  exact xs_lret C hr hlk hP hD hS dX7_rise_14
set_option maxRecDepth 100000 in
set_option maxHeartbeats 8000000 in
theorem mX7_kind (l : Launch) {X : xsX} {kIsKept kIsStale hiLatest hiSize scLength scFault scAt scNumber piSegmentsNow enKind enFromX enFromY enToX enToY tiMeetingPairs tiAlongPairs tiSize evSize evCrossings evSegmentsNow grEdges grQueued huSize huBestX huBestY : Int32} {scBytes scTold tiTouching tiLyingAlong evBundle evCrossingOf evEventOf evLeftEvent evRightEvent grDegree grFar grQueue huX huY : Nat → Int32} {enX enY enLower : Int64} {evX evY evLower : Nat → Int64} {S : Nat → xsV} {Rw : va_W} {js : Nat} (hjs : js < 12) {sLx sLy sRx sRy sTi : Nat → Int32} {sSz : Int32} (hs_s : S js = (sLx, sLy, sRx, sRy, sTi, sSz)) {a0 : Int32} {out : Int32} (hf : fX7_kind sLx sLy sRx sRy a0 = some out) : Met l yX7_kind (xsWs yX7_kind cX7_kind 2 (some .int)) { frames := 1, cells := 0, slots := 0, locals := 21 } (xsP X (wK X kIsKept kIsStale hiLatest hiSize scBytes scTold scLength scFault scAt scNumber piSegmentsNow enKind enX enY enLower enFromX enFromY enToX enToY tiTouching tiLyingAlong tiMeetingPairs tiAlongPairs tiSize evX evY evLower evBundle evCrossingOf evEventOf evLeftEvent evRightEvent evSize evCrossings evSegmentsNow grDegree grEdges grFar grQueue grQueued huX huY huSize huBestX huBestY S Rw) [.ref (xsA X (27 + 6 * js)), .int a0]) (xsQi X out (wK X kIsKept kIsStale hiLatest hiSize scBytes scTold scLength scFault scAt scNumber piSegmentsNow enKind enX enY enLower enFromX enFromY enToX enToY tiTouching tiLyingAlong tiMeetingPairs tiAlongPairs tiSize evX evY evLower evBundle evCrossingOf evEventOf evLeftEvent evRightEvent evSize evCrossings evSegmentsNow grDegree grEdges grFar grQueue grQueued huX huY huSize huBestX huBestY S Rw)) 0 0 (xsF X) := by
  refine xs_meth RX7 (by decide) rfl (Nat.le_of_ble_eq_true rfl) ?_
  intro p e s m below meth c ls H locs C hP hD hS hr hlk hl
  have hx := C.1
  have hb := C.2.1
  have hl : lv_has ls 2 [(0, .ref (xsA X (27 + 6 * js))), (1, .int a0)] := hl
  obtain ⟨Qq, hQq⟩ : ∃ Qq, Qq = xsQi X out (wK X kIsKept kIsStale hiLatest hiSize scBytes scTold scLength scFault scAt scNumber piSegmentsNow enKind enX enY enLower enFromX enFromY enToX enToY tiTouching tiLyingAlong tiMeetingPairs tiAlongPairs tiSize evX evY evLower evBundle evCrossingOf evEventOf evLeftEvent evRightEvent evSize evCrossings evSegmentsNow grDegree grEdges grFar grQueue grQueued huX huY huSize huBestX huBestY S Rw) := ⟨_, rfl⟩
  rw [← hQq]
  unfold fX7_kind at hf
  refine lv_aload_n hx hb dX7_kind_0 rfl (lv_at hl 0 rfl) ?_
  refine lv_iload_n hx hb dX7_kind_1 rfl (lv_at hl 1 rfl) ?_
  replace hf := xsBd_use hf
  obtain ⟨o1, h2, hf⟩ := hf
  refine xs_calll hS (xs_runV (As := [.int a0]) C (mX7_width l (js := js) hjs hs_s h2) w_1083 w_571 w_572 w_106 w_573 hd_X7_width ⟨rfl, rfl, Nat.le_of_ble_eq_true rfl, Nat.le_of_ble_eq_true rfl, Nat.zero_le _, Nat.zero_le _⟩ hP hD hS (xs_lkS hjs) rfl hl.1 rfl (Nat.le_of_ble_eq_true rfl) dX7_kind_2) (fun H locs hP hD hS => ?_)
  refine lv_lconst (v := (0 : Int64)) hx hb dX7_kind_5 (by decide) ?_
  refine xs_lcmp_ne (tgt := 26) C dX7_kind_6 dX7_kind_7 (by decide) (fun c9 => ?_) (fun c9 => ?_)
  · replace hf := xsBr_f c9 hf
    refine lv_aload_n hx hb dX7_kind_26 rfl (lv_at hl 0 rfl) ?_
    refine lv_iload_n hx hb dX7_kind_27 rfl (lv_at hl 1 rfl) ?_
    replace hf := xsBd_use hf
    obtain ⟨o3, h4, hf⟩ := hf
    refine xs_calll hS (xs_runV (As := [.int a0]) C (mX7_rise l (js := js) hjs hs_s h4) w_1084 w_575 w_576 w_106 w_577 hd_X7_rise ⟨rfl, rfl, Nat.le_of_ble_eq_true rfl, Nat.le_of_ble_eq_true rfl, Nat.zero_le _, Nat.zero_le _⟩ hP hD hS (xs_lkS hjs) rfl hl.1 rfl (Nat.le_of_ble_eq_true rfl) dX7_kind_28) (fun H locs hP hD hS => ?_)
    refine lv_lconst (v := (0 : Int64)) hx hb dX7_kind_31 (by decide) ?_
    refine xs_lcmp_ne (tgt := 40) C dX7_kind_32 dX7_kind_33 (by decide) (fun c5 => ?_) (fun c5 => ?_)
    · replace hf := xsBr_f c5 hf
      refine lv_iconst (v := (3 : Int32)) hx hb dX7_kind_40 (by decide) ?_
      have ho := Option.some.inj hf
      subst ho
      rw [hQq]
      exact xs_iret C hr hlk hP hD hS dX7_kind_41
    · replace hf := xsBr_t c5 hf
      refine lv_iconst (v := (2 : Int32)) hx hb dX7_kind_36 (by decide) ?_
      refine lv_goto (tgt := 41) hx hb dX7_kind_37 (by decide) ?_
      have ho := Option.some.inj hf
      subst ho
      rw [hQq]
      exact xs_iret C hr hlk hP hD hS dX7_kind_41
  · replace hf := xsBr_t c9 hf
    refine lv_aload_n hx hb dX7_kind_10 rfl (lv_at hl 0 rfl) ?_
    refine lv_iload_n hx hb dX7_kind_11 rfl (lv_at hl 1 rfl) ?_
    replace hf := xsBd_use hf
    obtain ⟨o6, h7, hf⟩ := hf
    refine xs_calll hS (xs_runV (As := [.int a0]) C (mX7_rise l (js := js) hjs hs_s h7) w_1084 w_575 w_576 w_106 w_577 hd_X7_rise ⟨rfl, rfl, Nat.le_of_ble_eq_true rfl, Nat.le_of_ble_eq_true rfl, Nat.zero_le _, Nat.zero_le _⟩ hP hD hS (xs_lkS hjs) rfl hl.1 rfl (Nat.le_of_ble_eq_true rfl) dX7_kind_12) (fun H locs hP hD hS => ?_)
    refine lv_lconst (v := (0 : Int64)) hx hb dX7_kind_15 (by decide) ?_
    refine xs_lcmp_ne (tgt := 24) C dX7_kind_16 dX7_kind_17 (by decide) (fun c8 => ?_) (fun c8 => ?_)
    · replace hf := xsBr_f c8 hf
      refine lv_iconst (v := (1 : Int32)) hx hb dX7_kind_24 (by decide) ?_
      have ho := Option.some.inj hf
      subst ho
      rw [hQq]
      exact xs_iret C hr hlk hP hD hS dX7_kind_25
    · replace hf := xsBr_t c8 hf
      refine lv_iconst (v := (0 : Int32)) hx hb dX7_kind_20 (by decide) ?_
      refine lv_goto (tgt := 25) hx hb dX7_kind_21 (by decide) ?_
      have ho := Option.some.inj hf
      subst ho
      rw [hQq]
      exact xs_iret C hr hlk hP hD hS dX7_kind_25
set_option maxRecDepth 100000 in
set_option maxHeartbeats 8000000 in
theorem mX7_isSame (l : Launch) {X : xsX} {kIsKept kIsStale hiLatest hiSize scLength scFault scAt scNumber piSegmentsNow enKind enFromX enFromY enToX enToY tiMeetingPairs tiAlongPairs tiSize evSize evCrossings evSegmentsNow grEdges grQueued huSize huBestX huBestY : Int32} {scBytes scTold tiTouching tiLyingAlong evBundle evCrossingOf evEventOf evLeftEvent evRightEvent grDegree grFar grQueue huX huY : Nat → Int32} {enX enY enLower : Int64} {evX evY evLower : Nat → Int64} {S : Nat → xsV} {Rw : va_W} {js : Nat} (hjs : js < 12) {sLx sLy sRx sRy sTi : Nat → Int32} {sSz : Int32} (hs_s : S js = (sLx, sLy, sRx, sRy, sTi, sSz)) {a0 : Int32} {a1 : Int32} {out : Int32} (hf : fX7_isSame sLx sLy sRx sRy a0 a1 = some out) : Met l yX7_isSame (xsWs yX7_isSame cX7_isSame 3 (some .boolean)) { frames := 0, cells := 0, slots := 0, locals := 0 } (xsP X (wK X kIsKept kIsStale hiLatest hiSize scBytes scTold scLength scFault scAt scNumber piSegmentsNow enKind enX enY enLower enFromX enFromY enToX enToY tiTouching tiLyingAlong tiMeetingPairs tiAlongPairs tiSize evX evY evLower evBundle evCrossingOf evEventOf evLeftEvent evRightEvent evSize evCrossings evSegmentsNow grDegree grEdges grFar grQueue grQueued huX huY huSize huBestX huBestY S Rw) [.ref (xsA X (27 + 6 * js)), .int a0, .int a1]) (xsQi X out (wK X kIsKept kIsStale hiLatest hiSize scBytes scTold scLength scFault scAt scNumber piSegmentsNow enKind enX enY enLower enFromX enFromY enToX enToY tiTouching tiLyingAlong tiMeetingPairs tiAlongPairs tiSize evX evY evLower evBundle evCrossingOf evEventOf evLeftEvent evRightEvent evSize evCrossings evSegmentsNow grDegree grEdges grFar grQueue grQueued huX huY huSize huBestX huBestY S Rw)) 0 0 (xsF X) := by
  refine xs_meth RX7 (by decide) rfl (Nat.le_of_ble_eq_true rfl) ?_
  intro p e s m below meth c ls H locs C hP hD hS hr hlk hl
  have hx := C.1
  have hb := C.2.1
  have hl : lv_has ls 3 [(0, .ref (xsA X (27 + 6 * js))), (1, .int a0), (2, .int a1)] := hl
  obtain ⟨Qq, hQq⟩ : ∃ Qq, Qq = xsQi X out (wK X kIsKept kIsStale hiLatest hiSize scBytes scTold scLength scFault scAt scNumber piSegmentsNow enKind enX enY enLower enFromX enFromY enToX enToY tiTouching tiLyingAlong tiMeetingPairs tiAlongPairs tiSize evX evY evLower evBundle evCrossingOf evEventOf evLeftEvent evRightEvent evSize evCrossings evSegmentsNow grDegree grEdges grFar grQueue grQueued huX huY huSize huBestX huBestY S Rw) := ⟨_, rfl⟩
  rw [← hQq]
  unfold fX7_isSame at hf
  refine lv_aload_n hx hb dX7_isSame_0 rfl (lv_at hl 0 rfl) ?_
  refine xg_X7_9 (j := js) hjs C hP dX7_isSame_1 ?_
  refine lv_iload_n hx hb dX7_isSame_4 rfl (lv_at hl 1 rfl) ?_
  replace hf := xsCk_use hf
  obtain ⟨h1, hf⟩ := hf
  refine xl_s0 (j := js) hjs hs_s C hP h1 dX7_isSame_5 ?_
  refine lv_aload_n hx hb dX7_isSame_6 rfl (lv_at hl 0 rfl) ?_
  refine xg_X7_9 (j := js) hjs C hP dX7_isSame_7 ?_
  refine lv_iload_n hx hb dX7_isSame_10 rfl (lv_at hl 2 rfl) ?_
  replace hf := xsCk_use hf
  obtain ⟨h2, hf⟩ := hf
  refine xl_s0 (j := js) hjs hs_s C hP h2 dX7_isSame_11 ?_
  refine lv_icmp_ne (tgt := 64) hx hb dX7_isSame_12 (by decide) (fun c12 => ?_) (fun c12 => ?_)
  · replace hf := xsBr_f c12 hf
    refine lv_iconst (v := (0 : Int32)) hx hb dX7_isSame_64 (by decide) ?_
    have ho := Option.some.inj hf
    subst ho
    rw [hQq]
    exact xs_zret C hr hlk xsB_0 hP hD hS dX7_isSame_65
  · replace hf := xsBr_t c12 hf
    refine lv_aload_n hx hb dX7_isSame_15 rfl (lv_at hl 0 rfl) ?_
    refine xg_X7_15 (j := js) hjs C hP dX7_isSame_16 ?_
    refine lv_iload_n hx hb dX7_isSame_19 rfl (lv_at hl 1 rfl) ?_
    replace hf := xsCk_use hf
    obtain ⟨h3, hf⟩ := hf
    refine xl_s1 (j := js) hjs hs_s C hP h3 dX7_isSame_20 ?_
    refine lv_aload_n hx hb dX7_isSame_21 rfl (lv_at hl 0 rfl) ?_
    refine xg_X7_15 (j := js) hjs C hP dX7_isSame_22 ?_
    refine lv_iload_n hx hb dX7_isSame_25 rfl (lv_at hl 2 rfl) ?_
    replace hf := xsCk_use hf
    obtain ⟨h4, hf⟩ := hf
    refine xl_s1 (j := js) hjs hs_s C hP h4 dX7_isSame_26 ?_
    refine lv_icmp_ne (tgt := 64) hx hb dX7_isSame_27 (by decide) (fun c11 => ?_) (fun c11 => ?_)
    · replace hf := xsBr_f c11 hf
      refine lv_iconst (v := (0 : Int32)) hx hb dX7_isSame_64 (by decide) ?_
      have ho := Option.some.inj hf
      subst ho
      rw [hQq]
      exact xs_zret C hr hlk xsB_0 hP hD hS dX7_isSame_65
    · replace hf := xsBr_t c11 hf
      refine lv_aload_n hx hb dX7_isSame_30 rfl (lv_at hl 0 rfl) ?_
      refine xg_X7_18 (j := js) hjs C hP dX7_isSame_31 ?_
      refine lv_iload_n hx hb dX7_isSame_34 rfl (lv_at hl 1 rfl) ?_
      replace hf := xsCk_use hf
      obtain ⟨h5, hf⟩ := hf
      refine xl_s2 (j := js) hjs hs_s C hP h5 dX7_isSame_35 ?_
      refine lv_aload_n hx hb dX7_isSame_36 rfl (lv_at hl 0 rfl) ?_
      refine xg_X7_18 (j := js) hjs C hP dX7_isSame_37 ?_
      refine lv_iload_n hx hb dX7_isSame_40 rfl (lv_at hl 2 rfl) ?_
      replace hf := xsCk_use hf
      obtain ⟨h6, hf⟩ := hf
      refine xl_s2 (j := js) hjs hs_s C hP h6 dX7_isSame_41 ?_
      refine lv_icmp_ne (tgt := 64) hx hb dX7_isSame_42 (by decide) (fun c10 => ?_) (fun c10 => ?_)
      · replace hf := xsBr_f c10 hf
        refine lv_iconst (v := (0 : Int32)) hx hb dX7_isSame_64 (by decide) ?_
        have ho := Option.some.inj hf
        subst ho
        rw [hQq]
        exact xs_zret C hr hlk xsB_0 hP hD hS dX7_isSame_65
      · replace hf := xsBr_t c10 hf
        refine lv_aload_n hx hb dX7_isSame_45 rfl (lv_at hl 0 rfl) ?_
        refine xg_X7_21 (j := js) hjs C hP dX7_isSame_46 ?_
        refine lv_iload_n hx hb dX7_isSame_49 rfl (lv_at hl 1 rfl) ?_
        replace hf := xsCk_use hf
        obtain ⟨h7, hf⟩ := hf
        refine xl_s3 (j := js) hjs hs_s C hP h7 dX7_isSame_50 ?_
        refine lv_aload_n hx hb dX7_isSame_51 rfl (lv_at hl 0 rfl) ?_
        refine xg_X7_21 (j := js) hjs C hP dX7_isSame_52 ?_
        refine lv_iload_n hx hb dX7_isSame_55 rfl (lv_at hl 2 rfl) ?_
        replace hf := xsCk_use hf
        obtain ⟨h8, hf⟩ := hf
        refine xl_s3 (j := js) hjs hs_s C hP h8 dX7_isSame_56 ?_
        refine lv_icmp_ne (tgt := 64) hx hb dX7_isSame_57 (by decide) (fun c9 => ?_) (fun c9 => ?_)
        · replace hf := xsBr_f c9 hf
          refine lv_iconst (v := (0 : Int32)) hx hb dX7_isSame_64 (by decide) ?_
          have ho := Option.some.inj hf
          subst ho
          rw [hQq]
          exact xs_zret C hr hlk xsB_0 hP hD hS dX7_isSame_65
        · replace hf := xsBr_t c9 hf
          refine lv_iconst (v := (1 : Int32)) hx hb dX7_isSame_60 (by decide) ?_
          refine lv_goto (tgt := 65) hx hb dX7_isSame_61 (by decide) ?_
          have ho := Option.some.inj hf
          subst ho
          rw [hQq]
          exact xs_zret C hr hlk xsB_1 hP hD hS dX7_isSame_65
set_option maxRecDepth 100000 in
set_option maxHeartbeats 8000000 in
theorem mX7_spansX (l : Launch) {X : xsX} {kIsKept kIsStale hiLatest hiSize scLength scFault scAt scNumber piSegmentsNow enKind enFromX enFromY enToX enToY tiMeetingPairs tiAlongPairs tiSize evSize evCrossings evSegmentsNow grEdges grQueued huSize huBestX huBestY : Int32} {scBytes scTold tiTouching tiLyingAlong evBundle evCrossingOf evEventOf evLeftEvent evRightEvent grDegree grFar grQueue huX huY : Nat → Int32} {enX enY enLower : Int64} {evX evY evLower : Nat → Int64} {S : Nat → xsV} {Rw : va_W} {js : Nat} (hjs : js < 12) {sLx sLy sRx sRy sTi : Nat → Int32} {sSz : Int32} (hs_s : S js = (sLx, sLy, sRx, sRy, sTi, sSz)) {a0 : Int32} {a1 : Int32} {out : Int32} (hf : fX7_spansX sLx sRx a0 a1 = some out) : Met l yX7_spansX (xsWs yX7_spansX cX7_spansX 3 (some .boolean)) { frames := 0, cells := 0, slots := 0, locals := 0 } (xsP X (wK X kIsKept kIsStale hiLatest hiSize scBytes scTold scLength scFault scAt scNumber piSegmentsNow enKind enX enY enLower enFromX enFromY enToX enToY tiTouching tiLyingAlong tiMeetingPairs tiAlongPairs tiSize evX evY evLower evBundle evCrossingOf evEventOf evLeftEvent evRightEvent evSize evCrossings evSegmentsNow grDegree grEdges grFar grQueue grQueued huX huY huSize huBestX huBestY S Rw) [.ref (xsA X (27 + 6 * js)), .int a0, .int a1]) (xsQi X out (wK X kIsKept kIsStale hiLatest hiSize scBytes scTold scLength scFault scAt scNumber piSegmentsNow enKind enX enY enLower enFromX enFromY enToX enToY tiTouching tiLyingAlong tiMeetingPairs tiAlongPairs tiSize evX evY evLower evBundle evCrossingOf evEventOf evLeftEvent evRightEvent evSize evCrossings evSegmentsNow grDegree grEdges grFar grQueue grQueued huX huY huSize huBestX huBestY S Rw)) 0 0 (xsF X) := by
  refine xs_meth RX7 (by decide) rfl (Nat.le_of_ble_eq_true rfl) ?_
  intro p e s m below meth c ls H locs C hP hD hS hr hlk hl
  have hx := C.1
  have hb := C.2.1
  have hl : lv_has ls 3 [(0, .ref (xsA X (27 + 6 * js))), (1, .int a0), (2, .int a1)] := hl
  obtain ⟨Qq, hQq⟩ : ∃ Qq, Qq = xsQi X out (wK X kIsKept kIsStale hiLatest hiSize scBytes scTold scLength scFault scAt scNumber piSegmentsNow enKind enX enY enLower enFromX enFromY enToX enToY tiTouching tiLyingAlong tiMeetingPairs tiAlongPairs tiSize evX evY evLower evBundle evCrossingOf evEventOf evLeftEvent evRightEvent evSize evCrossings evSegmentsNow grDegree grEdges grFar grQueue grQueued huX huY huSize huBestX huBestY S Rw) := ⟨_, rfl⟩
  rw [← hQq]
  unfold fX7_spansX at hf
  refine lv_aload_n hx hb dX7_spansX_0 rfl (lv_at hl 0 rfl) ?_
  refine xg_X7_9 (j := js) hjs C hP dX7_spansX_1 ?_
  refine lv_iload_n hx hb dX7_spansX_4 rfl (lv_at hl 1 rfl) ?_
  replace hf := xsCk_use hf
  obtain ⟨h1, hf⟩ := hf
  refine xl_s0 (j := js) hjs hs_s C hP h1 dX7_spansX_5 ?_
  refine lv_iload_n hx hb dX7_spansX_6 rfl (lv_at hl 2 rfl) ?_
  refine lv_icmp_gt (tgt := 24) hx hb dX7_spansX_7 (by decide) (fun c4 => ?_) (fun c4 => ?_)
  · replace hf := xsBr_t c4 hf
    refine lv_iconst (v := (0 : Int32)) hx hb dX7_spansX_24 (by decide) ?_
    have ho := Option.some.inj hf
    subst ho
    rw [hQq]
    exact xs_zret C hr hlk xsB_0 hP hD hS dX7_spansX_25
  · replace hf := xsBr_f c4 hf
    refine lv_iload_n hx hb dX7_spansX_10 rfl (lv_at hl 2 rfl) ?_
    refine lv_aload_n hx hb dX7_spansX_11 rfl (lv_at hl 0 rfl) ?_
    refine xg_X7_18 (j := js) hjs C hP dX7_spansX_12 ?_
    refine lv_iload_n hx hb dX7_spansX_15 rfl (lv_at hl 1 rfl) ?_
    replace hf := xsCk_use hf
    obtain ⟨h2, hf⟩ := hf
    refine xl_s2 (j := js) hjs hs_s C hP h2 dX7_spansX_16 ?_
    refine lv_icmp_gt (tgt := 24) hx hb dX7_spansX_17 (by decide) (fun c3 => ?_) (fun c3 => ?_)
    · replace hf := xsBr_t c3 hf
      refine lv_iconst (v := (0 : Int32)) hx hb dX7_spansX_24 (by decide) ?_
      have ho := Option.some.inj hf
      subst ho
      rw [hQq]
      exact xs_zret C hr hlk xsB_0 hP hD hS dX7_spansX_25
    · replace hf := xsBr_f c3 hf
      refine lv_iconst (v := (1 : Int32)) hx hb dX7_spansX_20 (by decide) ?_
      refine lv_goto (tgt := 25) hx hb dX7_spansX_21 (by decide) ?_
      have ho := Option.some.inj hf
      subst ho
      rw [hQq]
      exact xs_zret C hr hlk xsB_1 hP hD hS dX7_spansX_25
set_option maxRecDepth 100000 in
set_option maxHeartbeats 8000000 in
theorem mX7_gapAbove (l : Launch) {X : xsX} {kIsKept kIsStale hiLatest hiSize scLength scFault scAt scNumber piSegmentsNow enKind enFromX enFromY enToX enToY tiMeetingPairs tiAlongPairs tiSize evSize evCrossings evSegmentsNow grEdges grQueued huSize huBestX huBestY : Int32} {scBytes scTold tiTouching tiLyingAlong evBundle evCrossingOf evEventOf evLeftEvent evRightEvent grDegree grFar grQueue huX huY : Nat → Int32} {enX enY enLower : Int64} {evX evY evLower : Nat → Int64} {S : Nat → xsV} {Rw : va_W} {js : Nat} (hjs : js < 12) {sLx sLy sRx sRy sTi : Nat → Int32} {sSz : Int32} (hs_s : S js = (sLx, sLy, sRx, sRy, sTi, sSz)) {a0 : Int32} {a1 : Int32} {a2 : Int32} {out : Int64} (hf : fX7_gapAbove sLx sLy sRx sRy a0 a1 a2 = some out) : Met l yX7_gapAbove (xsWs yX7_gapAbove cX7_gapAbove 4 (some .long)) { frames := 1, cells := 0, slots := 0, locals := 21 } (xsP X (wK X kIsKept kIsStale hiLatest hiSize scBytes scTold scLength scFault scAt scNumber piSegmentsNow enKind enX enY enLower enFromX enFromY enToX enToY tiTouching tiLyingAlong tiMeetingPairs tiAlongPairs tiSize evX evY evLower evBundle evCrossingOf evEventOf evLeftEvent evRightEvent evSize evCrossings evSegmentsNow grDegree grEdges grFar grQueue grQueued huX huY huSize huBestX huBestY S Rw) [.ref (xsA X (27 + 6 * js)), .int a0, .int a1, .int a2]) (xsQl X out (wK X kIsKept kIsStale hiLatest hiSize scBytes scTold scLength scFault scAt scNumber piSegmentsNow enKind enX enY enLower enFromX enFromY enToX enToY tiTouching tiLyingAlong tiMeetingPairs tiAlongPairs tiSize evX evY evLower evBundle evCrossingOf evEventOf evLeftEvent evRightEvent evSize evCrossings evSegmentsNow grDegree grEdges grFar grQueue grQueued huX huY huSize huBestX huBestY S Rw)) 0 0 (xsF X) := by
  refine xs_meth RX7 (by decide) rfl (Nat.le_of_ble_eq_true rfl) ?_
  intro p e s m below meth c ls H locs C hP hD hS hr hlk hl
  have hx := C.1
  have hb := C.2.1
  have hl : lv_has ls 4 [(0, .ref (xsA X (27 + 6 * js))), (1, .int a0), (2, .int a1), (3, .int a2)] := hl
  obtain ⟨Qq, hQq⟩ : ∃ Qq, Qq = xsQl X out (wK X kIsKept kIsStale hiLatest hiSize scBytes scTold scLength scFault scAt scNumber piSegmentsNow enKind enX enY enLower enFromX enFromY enToX enToY tiTouching tiLyingAlong tiMeetingPairs tiAlongPairs tiSize evX evY evLower evBundle evCrossingOf evEventOf evLeftEvent evRightEvent evSize evCrossings evSegmentsNow grDegree grEdges grFar grQueue grQueued huX huY huSize huBestX huBestY S Rw) := ⟨_, rfl⟩
  rw [← hQq]
  unfold fX7_gapAbove at hf
  refine lv_aload_n hx hb dX7_gapAbove_0 rfl (lv_at hl 0 rfl) ?_
  refine lv_iload_n hx hb dX7_gapAbove_1 rfl (lv_at hl 1 rfl) ?_
  replace hf := xsBd_use hf
  obtain ⟨o1, h2, hf⟩ := hf
  refine xs_calll hS (xs_runV (As := [.int a0]) C (mX7_width l (js := js) hjs hs_s h2) w_1083 w_571 w_572 w_106 w_573 hd_X7_width ⟨rfl, rfl, Nat.le_of_ble_eq_true rfl, Nat.le_of_ble_eq_true rfl, Nat.zero_le _, Nat.zero_le _⟩ hP hD hS (xs_lkS hjs) rfl hl.1 rfl (Nat.le_of_ble_eq_true rfl) dX7_gapAbove_2) (fun H locs hP hD hS => ?_)
  refine lv_lconst (v := (0 : Int64)) hx hb dX7_gapAbove_5 (by decide) ?_
  refine xs_lcmp_eq (tgt := 42) C dX7_gapAbove_6 dX7_gapAbove_7 (by decide) (fun c15 => ?_) (fun c15 => ?_)
  · replace hf := xsBr_t c15 hf
    refine lv_aload_n hx hb dX7_gapAbove_42 rfl (lv_at hl 0 rfl) ?_
    refine xg_X7_15 (j := js) hjs C hP dX7_gapAbove_43 ?_
    refine lv_iload_n hx hb dX7_gapAbove_46 rfl (lv_at hl 1 rfl) ?_
    replace hf := xsCk_use hf
    obtain ⟨h3, hf⟩ := hf
    refine xl_s1 (j := js) hjs hs_s C hP h3 dX7_gapAbove_47 ?_
    refine lv_iload_n hx hb dX7_gapAbove_48 rfl (lv_at hl 3 rfl) ?_
    refine lv_icmp_le (tgt := 62) hx hb dX7_gapAbove_49 (by decide) (fun c8 => ?_) (fun c8 => ?_)
    · replace hf := xsBr_t c8 hf
      refine lv_aload_n hx hb dX7_gapAbove_62 rfl (lv_at hl 0 rfl) ?_
      refine xg_X7_21 (j := js) hjs C hP dX7_gapAbove_63 ?_
      refine lv_iload_n hx hb dX7_gapAbove_66 rfl (lv_at hl 1 rfl) ?_
      replace hf := xsCk_use hf
      obtain ⟨h4, hf⟩ := hf
      refine xl_s3 (j := js) hjs hs_s C hP h4 dX7_gapAbove_67 ?_
      refine lv_iload_n hx hb dX7_gapAbove_68 rfl (lv_at hl 3 rfl) ?_
      refine lv_icmp_ge (tgt := 84) hx hb dX7_gapAbove_69 (by decide) (fun c6 => ?_) (fun c6 => ?_)
      · replace hf := xsBr_t c6 hf
        refine lv_lconst (v := (0 : Int64)) hx hb dX7_gapAbove_84 (by decide) ?_
        have ho := Option.some.inj hf
        subst ho
        rw [hQq]
        exact xs_lret C hr hlk hP hD hS dX7_gapAbove_85
      · replace hf := xsBr_f c6 hf
        refine lv_aload_n hx hb dX7_gapAbove_72 rfl (lv_at hl 0 rfl) ?_
        refine xg_X7_21 (j := js) hjs C hP dX7_gapAbove_73 ?_
        refine lv_iload_n hx hb dX7_gapAbove_76 rfl (lv_at hl 1 rfl) ?_
        replace hf := xsCk_use hf
        obtain ⟨h5, hf⟩ := hf
        refine xl_s3 (j := js) hjs hs_s C hP h5 dX7_gapAbove_77 ?_
        refine lv_iload_n hx hb dX7_gapAbove_78 rfl (lv_at hl 3 rfl) ?_
        refine lv_isub hx hb dX7_gapAbove_79 ?_
        refine lv_i2l hx hb dX7_gapAbove_80 rfl ?_
        refine lv_goto (tgt := 85) hx hb dX7_gapAbove_81 (by decide) ?_
        have ho := Option.some.inj hf
        subst ho
        rw [hQq]
        exact xs_lret C hr hlk hP hD hS dX7_gapAbove_85
    · replace hf := xsBr_f c8 hf
      refine lv_aload_n hx hb dX7_gapAbove_52 rfl (lv_at hl 0 rfl) ?_
      refine xg_X7_15 (j := js) hjs C hP dX7_gapAbove_53 ?_
      refine lv_iload_n hx hb dX7_gapAbove_56 rfl (lv_at hl 1 rfl) ?_
      replace hf := xsCk_use hf
      obtain ⟨h7, hf⟩ := hf
      refine xl_s1 (j := js) hjs hs_s C hP h7 dX7_gapAbove_57 ?_
      refine lv_iload_n hx hb dX7_gapAbove_58 rfl (lv_at hl 3 rfl) ?_
      refine lv_isub hx hb dX7_gapAbove_59 ?_
      refine lv_i2l hx hb dX7_gapAbove_60 rfl ?_
      have ho := Option.some.inj hf
      subst ho
      rw [hQq]
      exact xs_lret C hr hlk hP hD hS dX7_gapAbove_61
  · replace hf := xsBr_f c15 hf
    refine lv_aload_n hx hb dX7_gapAbove_10 rfl (lv_at hl 0 rfl) ?_
    refine xg_X7_15 (j := js) hjs C hP dX7_gapAbove_11 ?_
    refine lv_iload_n hx hb dX7_gapAbove_14 rfl (lv_at hl 1 rfl) ?_
    replace hf := xsCk_use hf
    obtain ⟨h9, hf⟩ := hf
    refine xl_s1 (j := js) hjs hs_s C hP h9 dX7_gapAbove_15 ?_
    refine lv_iload_n hx hb dX7_gapAbove_16 rfl (lv_at hl 3 rfl) ?_
    refine lv_isub hx hb dX7_gapAbove_17 ?_
    refine lv_i2l hx hb dX7_gapAbove_18 rfl ?_
    refine lv_aload_n hx hb dX7_gapAbove_19 rfl (lv_at hl 0 rfl) ?_
    refine lv_iload_n hx hb dX7_gapAbove_20 rfl (lv_at hl 1 rfl) ?_
    replace hf := xsBd_use hf
    obtain ⟨o10, h11, hf⟩ := hf
    refine xs_calll hS (xs_runV (As := [.int a0]) C (mX7_width l (js := js) hjs hs_s h11) w_1083 w_571 w_572 w_106 w_573 hd_X7_width ⟨rfl, rfl, Nat.le_of_ble_eq_true rfl, Nat.le_of_ble_eq_true rfl, Nat.zero_le _, Nat.zero_le _⟩ hP hD hS (xs_lkS hjs) rfl hl.1 rfl (Nat.le_of_ble_eq_true rfl) dX7_gapAbove_21) (fun H locs hP hD hS => ?_)
    refine lv_lmul hx hb dX7_gapAbove_24 ?_
    refine lv_iload_n hx hb dX7_gapAbove_25 rfl (lv_at hl 2 rfl) ?_
    refine lv_aload_n hx hb dX7_gapAbove_26 rfl (lv_at hl 0 rfl) ?_
    refine xg_X7_9 (j := js) hjs C hP dX7_gapAbove_27 ?_
    refine lv_iload_n hx hb dX7_gapAbove_30 rfl (lv_at hl 1 rfl) ?_
    replace hf := xsCk_use hf
    obtain ⟨h12, hf⟩ := hf
    refine xl_s0 (j := js) hjs hs_s C hP h12 dX7_gapAbove_31 ?_
    refine lv_isub hx hb dX7_gapAbove_32 ?_
    refine lv_i2l hx hb dX7_gapAbove_33 rfl ?_
    refine lv_aload_n hx hb dX7_gapAbove_34 rfl (lv_at hl 0 rfl) ?_
    refine lv_iload_n hx hb dX7_gapAbove_35 rfl (lv_at hl 1 rfl) ?_
    replace hf := xsBd_use hf
    obtain ⟨o13, h14, hf⟩ := hf
    refine xs_calll hS (xs_runV (As := [.int a0]) C (mX7_rise l (js := js) hjs hs_s h14) w_1084 w_575 w_576 w_106 w_577 hd_X7_rise ⟨rfl, rfl, Nat.le_of_ble_eq_true rfl, Nat.le_of_ble_eq_true rfl, Nat.zero_le _, Nat.zero_le _⟩ hP hD hS (xs_lkS hjs) rfl hl.1 rfl (Nat.le_of_ble_eq_true rfl) dX7_gapAbove_36) (fun H locs hP hD hS => ?_)
    refine lv_lmul hx hb dX7_gapAbove_39 ?_
    refine lv_ladd hx hb dX7_gapAbove_40 ?_
    have ho := Option.some.inj hf
    subst ho
    rw [hQq]
    exact xs_lret C hr hlk hP hD hS dX7_gapAbove_41
set_option maxRecDepth 100000 in
set_option maxHeartbeats 8000000 in
theorem mX7_hasPoint (l : Launch) {X : xsX} {kIsKept kIsStale hiLatest hiSize scLength scFault scAt scNumber piSegmentsNow enKind enFromX enFromY enToX enToY tiMeetingPairs tiAlongPairs tiSize evSize evCrossings evSegmentsNow grEdges grQueued huSize huBestX huBestY : Int32} {scBytes scTold tiTouching tiLyingAlong evBundle evCrossingOf evEventOf evLeftEvent evRightEvent grDegree grFar grQueue huX huY : Nat → Int32} {enX enY enLower : Int64} {evX evY evLower : Nat → Int64} {S : Nat → xsV} {Rw : va_W} {js : Nat} (hjs : js < 12) {sLx sLy sRx sRy sTi : Nat → Int32} {sSz : Int32} (hs_s : S js = (sLx, sLy, sRx, sRy, sTi, sSz)) {a0 : Int32} {a1 : Int32} {a2 : Int32} {out : Int32} (hf : fX7_hasPoint sLx sLy sRx sRy a0 a1 a2 = some out) : Met l yX7_hasPoint (xsWs yX7_hasPoint cX7_hasPoint 4 (some .boolean)) { frames := 2, cells := 0, slots := 0, locals := 44 } (xsP X (wK X kIsKept kIsStale hiLatest hiSize scBytes scTold scLength scFault scAt scNumber piSegmentsNow enKind enX enY enLower enFromX enFromY enToX enToY tiTouching tiLyingAlong tiMeetingPairs tiAlongPairs tiSize evX evY evLower evBundle evCrossingOf evEventOf evLeftEvent evRightEvent evSize evCrossings evSegmentsNow grDegree grEdges grFar grQueue grQueued huX huY huSize huBestX huBestY S Rw) [.ref (xsA X (27 + 6 * js)), .int a0, .int a1, .int a2]) (xsQi X out (wK X kIsKept kIsStale hiLatest hiSize scBytes scTold scLength scFault scAt scNumber piSegmentsNow enKind enX enY enLower enFromX enFromY enToX enToY tiTouching tiLyingAlong tiMeetingPairs tiAlongPairs tiSize evX evY evLower evBundle evCrossingOf evEventOf evLeftEvent evRightEvent evSize evCrossings evSegmentsNow grDegree grEdges grFar grQueue grQueued huX huY huSize huBestX huBestY S Rw)) 0 0 (xsF X) := by
  refine xs_meth RX7 (by decide) rfl (Nat.le_of_ble_eq_true rfl) ?_
  intro p e s m below meth c ls H locs C hP hD hS hr hlk hl
  have hx := C.1
  have hb := C.2.1
  have hl : lv_has ls 4 [(0, .ref (xsA X (27 + 6 * js))), (1, .int a0), (2, .int a1), (3, .int a2)] := hl
  obtain ⟨Qq, hQq⟩ : ∃ Qq, Qq = xsQi X out (wK X kIsKept kIsStale hiLatest hiSize scBytes scTold scLength scFault scAt scNumber piSegmentsNow enKind enX enY enLower enFromX enFromY enToX enToY tiTouching tiLyingAlong tiMeetingPairs tiAlongPairs tiSize evX evY evLower evBundle evCrossingOf evEventOf evLeftEvent evRightEvent evSize evCrossings evSegmentsNow grDegree grEdges grFar grQueue grQueued huX huY huSize huBestX huBestY S Rw) := ⟨_, rfl⟩
  rw [← hQq]
  unfold fX7_hasPoint at hf
  refine lv_aload_n hx hb dX7_hasPoint_0 rfl (lv_at hl 0 rfl) ?_
  refine lv_iload_n hx hb dX7_hasPoint_1 rfl (lv_at hl 1 rfl) ?_
  refine lv_iload_n hx hb dX7_hasPoint_2 rfl (lv_at hl 2 rfl) ?_
  replace hf := xsBd_use hf
  obtain ⟨o1, h2, hf⟩ := hf
  refine xs_calli hS (xs_runV (As := [.int a0, .int a1]) C (mX7_spansX l (js := js) hjs hs_s h2) w_1267 w_1268 w_1269 w_106 w_1270 hd_X7_spansX ⟨rfl, rfl, Nat.le_of_ble_eq_true rfl, Nat.le_of_ble_eq_true rfl, Nat.zero_le _, Nat.zero_le _⟩ hP hD hS (xs_lkS hjs) rfl hl.1 rfl (Nat.le_of_ble_eq_true rfl) dX7_hasPoint_3) (fun H locs hP hD hS => ?_)
  refine lv_if_eq (tgt := 25) hx hb dX7_hasPoint_6 (by decide) (fun c6 => ?_) (fun c6 => ?_)
  · replace hf := xsBr_t c6 hf
    refine lv_iconst (v := (0 : Int32)) hx hb dX7_hasPoint_25 (by decide) ?_
    have ho := Option.some.inj hf
    subst ho
    rw [hQq]
    exact xs_zret C hr hlk xsB_0 hP hD hS dX7_hasPoint_26
  · replace hf := xsBr_f c6 hf
    refine lv_aload_n hx hb dX7_hasPoint_9 rfl (lv_at hl 0 rfl) ?_
    refine lv_iload_n hx hb dX7_hasPoint_10 rfl (lv_at hl 1 rfl) ?_
    refine lv_iload_n hx hb dX7_hasPoint_11 rfl (lv_at hl 2 rfl) ?_
    refine lv_iload_n hx hb dX7_hasPoint_12 rfl (lv_at hl 3 rfl) ?_
    replace hf := xsBd_use hf
    obtain ⟨o3, h4, hf⟩ := hf
    refine xs_calll hS (xs_runV (As := [.int a0, .int a1, .int a2]) C (mX7_gapAbove l (js := js) hjs hs_s h4) w_1271 w_1272 w_1273 w_106 w_1274 hd_X7_gapAbove ⟨rfl, rfl, Nat.le_of_ble_eq_true rfl, Nat.le_of_ble_eq_true rfl, Nat.zero_le _, Nat.zero_le _⟩ hP hD hS (xs_lkS hjs) rfl hl.1 rfl (Nat.le_of_ble_eq_true rfl) dX7_hasPoint_13) (fun H locs hP hD hS => ?_)
    refine lv_lconst (v := (0 : Int64)) hx hb dX7_hasPoint_16 (by decide) ?_
    refine xs_lcmp_ne (tgt := 25) C dX7_hasPoint_17 dX7_hasPoint_18 (by decide) (fun c5 => ?_) (fun c5 => ?_)
    · replace hf := xsBr_f c5 hf
      refine lv_iconst (v := (0 : Int32)) hx hb dX7_hasPoint_25 (by decide) ?_
      have ho := Option.some.inj hf
      subst ho
      rw [hQq]
      exact xs_zret C hr hlk xsB_0 hP hD hS dX7_hasPoint_26
    · replace hf := xsBr_t c5 hf
      refine lv_iconst (v := (1 : Int32)) hx hb dX7_hasPoint_21 (by decide) ?_
      refine lv_goto (tgt := 26) hx hb dX7_hasPoint_22 (by decide) ?_
      have ho := Option.some.inj hf
      subst ho
      rw [hQq]
      exact xs_zret C hr hlk xsB_1 hP hD hS dX7_hasPoint_26
set_option maxRecDepth 100000 in
set_option maxHeartbeats 8000000 in
theorem mX7_partsOfGap (l : Launch) {X : xsX} {kIsKept kIsStale hiLatest hiSize scLength scFault scAt scNumber piSegmentsNow enKind enFromX enFromY enToX enToY tiMeetingPairs tiAlongPairs tiSize evSize evCrossings evSegmentsNow grEdges grQueued huSize huBestX huBestY : Int32} {scBytes scTold tiTouching tiLyingAlong evBundle evCrossingOf evEventOf evLeftEvent evRightEvent grDegree grFar grQueue huX huY : Nat → Int32} {enX enY enLower : Int64} {evX evY evLower : Nat → Int64} {S : Nat → xsV} {Rw : va_W} {js : Nat} (hjs : js < 12) {sLx sLy sRx sRy sTi : Nat → Int32} {sSz : Int32} (hs_s : S js = (sLx, sLy, sRx, sRy, sTi, sSz)) {a0 : Int32} {out : Int64} (hf : fX7_partsOfGap sLx sRx a0 = some out) : Met l yX7_partsOfGap (xsWs yX7_partsOfGap cX7_partsOfGap 2 (some .long)) { frames := 1, cells := 0, slots := 0, locals := 21 } (xsP X (wK X kIsKept kIsStale hiLatest hiSize scBytes scTold scLength scFault scAt scNumber piSegmentsNow enKind enX enY enLower enFromX enFromY enToX enToY tiTouching tiLyingAlong tiMeetingPairs tiAlongPairs tiSize evX evY evLower evBundle evCrossingOf evEventOf evLeftEvent evRightEvent evSize evCrossings evSegmentsNow grDegree grEdges grFar grQueue grQueued huX huY huSize huBestX huBestY S Rw) [.ref (xsA X (27 + 6 * js)), .int a0]) (xsQl X out (wK X kIsKept kIsStale hiLatest hiSize scBytes scTold scLength scFault scAt scNumber piSegmentsNow enKind enX enY enLower enFromX enFromY enToX enToY tiTouching tiLyingAlong tiMeetingPairs tiAlongPairs tiSize evX evY evLower evBundle evCrossingOf evEventOf evLeftEvent evRightEvent evSize evCrossings evSegmentsNow grDegree grEdges grFar grQueue grQueued huX huY huSize huBestX huBestY S Rw)) 0 0 (xsF X) := by
  refine xs_meth RX7 (by decide) rfl (Nat.le_of_ble_eq_true rfl) ?_
  intro p e s m below meth c ls H locs C hP hD hS hr hlk hl
  have hx := C.1
  have hb := C.2.1
  have hl : lv_has ls 2 [(0, .ref (xsA X (27 + 6 * js))), (1, .int a0)] := hl
  obtain ⟨Qq, hQq⟩ : ∃ Qq, Qq = xsQl X out (wK X kIsKept kIsStale hiLatest hiSize scBytes scTold scLength scFault scAt scNumber piSegmentsNow enKind enX enY enLower enFromX enFromY enToX enToY tiTouching tiLyingAlong tiMeetingPairs tiAlongPairs tiSize evX evY evLower evBundle evCrossingOf evEventOf evLeftEvent evRightEvent evSize evCrossings evSegmentsNow grDegree grEdges grFar grQueue grQueued huX huY huSize huBestX huBestY S Rw) := ⟨_, rfl⟩
  rw [← hQq]
  unfold fX7_partsOfGap at hf
  refine lv_aload_n hx hb dX7_partsOfGap_0 rfl (lv_at hl 0 rfl) ?_
  refine lv_iload_n hx hb dX7_partsOfGap_1 rfl (lv_at hl 1 rfl) ?_
  replace hf := xsBd_use hf
  obtain ⟨o1, h2, hf⟩ := hf
  refine xs_calll hS (xs_runV (As := [.int a0]) C (mX7_width l (js := js) hjs hs_s h2) w_1083 w_571 w_572 w_106 w_573 hd_X7_width ⟨rfl, rfl, Nat.le_of_ble_eq_true rfl, Nat.le_of_ble_eq_true rfl, Nat.zero_le _, Nat.zero_le _⟩ hP hD hS (xs_lkS hjs) rfl hl.1 rfl (Nat.le_of_ble_eq_true rfl) dX7_partsOfGap_2) (fun H locs hP hD hS => ?_)
  refine lv_lconst (v := (0 : Int64)) hx hb dX7_partsOfGap_5 (by decide) ?_
  refine xs_lcmp_eq (tgt := 18) C dX7_partsOfGap_6 dX7_partsOfGap_7 (by decide) (fun c5 => ?_) (fun c5 => ?_)
  · replace hf := xsBr_t c5 hf
    refine lv_lconst (v := (1 : Int64)) hx hb dX7_partsOfGap_18 (by decide) ?_
    have ho := Option.some.inj hf
    subst ho
    rw [hQq]
    exact xs_lret C hr hlk hP hD hS dX7_partsOfGap_19
  · replace hf := xsBr_f c5 hf
    refine lv_aload_n hx hb dX7_partsOfGap_10 rfl (lv_at hl 0 rfl) ?_
    refine lv_iload_n hx hb dX7_partsOfGap_11 rfl (lv_at hl 1 rfl) ?_
    replace hf := xsBd_use hf
    obtain ⟨o3, h4, hf⟩ := hf
    refine xs_calll hS (xs_runV (As := [.int a0]) C (mX7_width l (js := js) hjs hs_s h4) w_1083 w_571 w_572 w_106 w_573 hd_X7_width ⟨rfl, rfl, Nat.le_of_ble_eq_true rfl, Nat.le_of_ble_eq_true rfl, Nat.zero_le _, Nat.zero_le _⟩ hP hD hS (xs_lkS hjs) rfl hl.1 rfl (Nat.le_of_ble_eq_true rfl) dX7_partsOfGap_12) (fun H locs hP hD hS => ?_)
    refine lv_goto (tgt := 19) hx hb dX7_partsOfGap_15 (by decide) ?_
    have ho := Option.some.inj hf
    subst ho
    rw [hQq]
    exact xs_lret C hr hlk hP hD hS dX7_partsOfGap_19
set_option maxRecDepth 100000 in
set_option maxHeartbeats 8000000 in
theorem mX7_sideOf (l : Launch) {X : xsX} {kIsKept kIsStale hiLatest hiSize scLength scFault scAt scNumber piSegmentsNow enKind enFromX enFromY enToX enToY tiMeetingPairs tiAlongPairs tiSize evSize evCrossings evSegmentsNow grEdges grQueued huSize huBestX huBestY : Int32} {scBytes scTold tiTouching tiLyingAlong evBundle evCrossingOf evEventOf evLeftEvent evRightEvent grDegree grFar grQueue huX huY : Nat → Int32} {enX enY enLower : Int64} {evX evY evLower : Nat → Int64} {S : Nat → xsV} {Rw : va_W} {js : Nat} (hjs : js < 12) {sLx sLy sRx sRy sTi : Nat → Int32} {sSz : Int32} (hs_s : S js = (sLx, sLy, sRx, sRy, sTi, sSz)) {a0 : Int32} {a1 : Int32} {a2 : Int32} {out : Int64} (hf : fX7_sideOf sLx sLy sRx sRy a0 a1 a2 = some out) : Met l yX7_sideOf (xsWs yX7_sideOf cX7_sideOf 4 (some .long)) { frames := 1, cells := 0, slots := 0, locals := 21 } (xsP X (wK X kIsKept kIsStale hiLatest hiSize scBytes scTold scLength scFault scAt scNumber piSegmentsNow enKind enX enY enLower enFromX enFromY enToX enToY tiTouching tiLyingAlong tiMeetingPairs tiAlongPairs tiSize evX evY evLower evBundle evCrossingOf evEventOf evLeftEvent evRightEvent evSize evCrossings evSegmentsNow grDegree grEdges grFar grQueue grQueued huX huY huSize huBestX huBestY S Rw) [.ref (xsA X (27 + 6 * js)), .int a0, .int a1, .int a2]) (xsQl X out (wK X kIsKept kIsStale hiLatest hiSize scBytes scTold scLength scFault scAt scNumber piSegmentsNow enKind enX enY enLower enFromX enFromY enToX enToY tiTouching tiLyingAlong tiMeetingPairs tiAlongPairs tiSize evX evY evLower evBundle evCrossingOf evEventOf evLeftEvent evRightEvent evSize evCrossings evSegmentsNow grDegree grEdges grFar grQueue grQueued huX huY huSize huBestX huBestY S Rw)) 0 0 (xsF X) := by
  refine xs_meth RX7 (by decide) rfl (Nat.le_of_ble_eq_true rfl) ?_
  intro p e s m below meth c ls H locs C hP hD hS hr hlk hl
  have hx := C.1
  have hb := C.2.1
  have hl : lv_has ls 4 [(0, .ref (xsA X (27 + 6 * js))), (1, .int a0), (2, .int a1), (3, .int a2)] := hl
  obtain ⟨Qq, hQq⟩ : ∃ Qq, Qq = xsQl X out (wK X kIsKept kIsStale hiLatest hiSize scBytes scTold scLength scFault scAt scNumber piSegmentsNow enKind enX enY enLower enFromX enFromY enToX enToY tiTouching tiLyingAlong tiMeetingPairs tiAlongPairs tiSize evX evY evLower evBundle evCrossingOf evEventOf evLeftEvent evRightEvent evSize evCrossings evSegmentsNow grDegree grEdges grFar grQueue grQueued huX huY huSize huBestX huBestY S Rw) := ⟨_, rfl⟩
  rw [← hQq]
  unfold fX7_sideOf at hf
  refine lv_aload_n hx hb dX7_sideOf_0 rfl (lv_at hl 0 rfl) ?_
  refine lv_iload_n hx hb dX7_sideOf_1 rfl (lv_at hl 1 rfl) ?_
  replace hf := xsBd_use hf
  obtain ⟨o1, h2, hf⟩ := hf
  refine xs_calll hS (xs_runV (As := [.int a0]) C (mX7_width l (js := js) hjs hs_s h2) w_1083 w_571 w_572 w_106 w_573 hd_X7_width ⟨rfl, rfl, Nat.le_of_ble_eq_true rfl, Nat.le_of_ble_eq_true rfl, Nat.zero_le _, Nat.zero_le _⟩ hP hD hS (xs_lkS hjs) rfl hl.1 rfl (Nat.le_of_ble_eq_true rfl) dX7_sideOf_2) (fun H locs hP hD hS => ?_)
  refine lv_iload_n hx hb dX7_sideOf_5 rfl (lv_at hl 3 rfl) ?_
  refine lv_aload_n hx hb dX7_sideOf_6 rfl (lv_at hl 0 rfl) ?_
  refine xg_X7_15 (j := js) hjs C hP dX7_sideOf_7 ?_
  refine lv_iload_n hx hb dX7_sideOf_10 rfl (lv_at hl 1 rfl) ?_
  replace hf := xsCk_use hf
  obtain ⟨h3, hf⟩ := hf
  refine xl_s1 (j := js) hjs hs_s C hP h3 dX7_sideOf_11 ?_
  refine lv_isub hx hb dX7_sideOf_12 ?_
  refine lv_i2l hx hb dX7_sideOf_13 rfl ?_
  refine lv_lmul hx hb dX7_sideOf_14 ?_
  refine lv_aload_n hx hb dX7_sideOf_15 rfl (lv_at hl 0 rfl) ?_
  refine lv_iload_n hx hb dX7_sideOf_16 rfl (lv_at hl 1 rfl) ?_
  replace hf := xsBd_use hf
  obtain ⟨o4, h5, hf⟩ := hf
  refine xs_calll hS (xs_runV (As := [.int a0]) C (mX7_rise l (js := js) hjs hs_s h5) w_1084 w_575 w_576 w_106 w_577 hd_X7_rise ⟨rfl, rfl, Nat.le_of_ble_eq_true rfl, Nat.le_of_ble_eq_true rfl, Nat.zero_le _, Nat.zero_le _⟩ hP hD hS (xs_lkS hjs) rfl hl.1 rfl (Nat.le_of_ble_eq_true rfl) dX7_sideOf_17) (fun H locs hP hD hS => ?_)
  refine lv_iload_n hx hb dX7_sideOf_20 rfl (lv_at hl 2 rfl) ?_
  refine lv_aload_n hx hb dX7_sideOf_21 rfl (lv_at hl 0 rfl) ?_
  refine xg_X7_9 (j := js) hjs C hP dX7_sideOf_22 ?_
  refine lv_iload_n hx hb dX7_sideOf_25 rfl (lv_at hl 1 rfl) ?_
  replace hf := xsCk_use hf
  obtain ⟨h6, hf⟩ := hf
  refine xl_s0 (j := js) hjs hs_s C hP h6 dX7_sideOf_26 ?_
  refine lv_isub hx hb dX7_sideOf_27 ?_
  refine lv_i2l hx hb dX7_sideOf_28 rfl ?_
  refine lv_lmul hx hb dX7_sideOf_29 ?_
  refine lv_lsub hx hb dX7_sideOf_30 ?_
  have ho := Option.some.inj hf
  subst ho
  rw [hQq]
  exact xs_lret C hr hlk hP hD hS dX7_sideOf_31
set_option maxRecDepth 100000 in
set_option maxHeartbeats 8000000 in
theorem mX7_comesInto (l : Launch) {X : xsX} {kIsKept kIsStale hiLatest hiSize scLength scFault scAt scNumber piSegmentsNow enKind enFromX enFromY enToX enToY tiMeetingPairs tiAlongPairs tiSize evSize evCrossings evSegmentsNow grEdges grQueued huSize huBestX huBestY : Int32} {scBytes scTold tiTouching tiLyingAlong evBundle evCrossingOf evEventOf evLeftEvent evRightEvent grDegree grFar grQueue huX huY : Nat → Int32} {enX enY enLower : Int64} {evX evY evLower : Nat → Int64} {S : Nat → xsV} {Rw : va_W} {js : Nat} (hjs : js < 12) {sLx sLy sRx sRy sTi : Nat → Int32} {sSz : Int32} (hs_s : S js = (sLx, sLy, sRx, sRy, sTi, sSz)) {a0 : Int32} {a1 : Int32} {a2 : Int32} {a3 : Int32} {a4 : Int32} {out : Int32} (hf : fX7_comesInto sLx sLy sRx sRy a0 a1 a2 a3 a4 = some out) : Met l yX7_comesInto (xsWs yX7_comesInto cX7_comesInto 17 (some .boolean)) { frames := 2, cells := 0, slots := 0, locals := 44 } (xsP X (wK X kIsKept kIsStale hiLatest hiSize scBytes scTold scLength scFault scAt scNumber piSegmentsNow enKind enX enY enLower enFromX enFromY enToX enToY tiTouching tiLyingAlong tiMeetingPairs tiAlongPairs tiSize evX evY evLower evBundle evCrossingOf evEventOf evLeftEvent evRightEvent evSize evCrossings evSegmentsNow grDegree grEdges grFar grQueue grQueued huX huY huSize huBestX huBestY S Rw) [.ref (xsA X (27 + 6 * js)), .int a0, .int a1, .int a2, .int a3, .int a4]) (xsQi X out (wK X kIsKept kIsStale hiLatest hiSize scBytes scTold scLength scFault scAt scNumber piSegmentsNow enKind enX enY enLower enFromX enFromY enToX enToY tiTouching tiLyingAlong tiMeetingPairs tiAlongPairs tiSize evX evY evLower evBundle evCrossingOf evEventOf evLeftEvent evRightEvent evSize evCrossings evSegmentsNow grDegree grEdges grFar grQueue grQueued huX huY huSize huBestX huBestY S Rw)) 0 0 (xsF X) := by
  refine xs_meth RX7 (by decide) rfl (Nat.le_of_ble_eq_true rfl) ?_
  intro p e s m below meth c ls H locs C hP hD hS hr hlk hl
  have hx := C.1
  have hb := C.2.1
  have hl : lv_has ls 17 [(0, .ref (xsA X (27 + 6 * js))), (1, .int a0), (2, .int a1), (3, .int a2), (4, .int a3), (5, .int a4)] := hl
  obtain ⟨Qq, hQq⟩ : ∃ Qq, Qq = xsQi X out (wK X kIsKept kIsStale hiLatest hiSize scBytes scTold scLength scFault scAt scNumber piSegmentsNow enKind enX enY enLower enFromX enFromY enToX enToY tiTouching tiLyingAlong tiMeetingPairs tiAlongPairs tiSize evX evY evLower evBundle evCrossingOf evEventOf evLeftEvent evRightEvent evSize evCrossings evSegmentsNow grDegree grEdges grFar grQueue grQueued huX huY huSize huBestX huBestY S Rw) := ⟨_, rfl⟩
  rw [← hQq]
  unfold fX7_comesInto at hf
  refine lv_aload_n hx hb dX7_comesInto_0 rfl (lv_at hl 0 rfl) ?_
  refine xg_X7_9 (j := js) hjs C hP dX7_comesInto_1 ?_
  refine lv_iload_n hx hb dX7_comesInto_4 rfl (lv_at hl 1 rfl) ?_
  replace hf := xsCk_use hf
  obtain ⟨h1, hf⟩ := hf
  refine xl_s0 (j := js) hjs hs_s C hP h1 dX7_comesInto_5 ?_
  refine lv_iload hx hb dX7_comesInto_6 (lv_at hl 4 rfl) ?_
  have K32 : ∀ (y2 : Int32) (hf : fX7_comesInto_J65 sLx sLy sRx sRy a0 a1 a2 a3 a4 y2 = some out) (H : Heap) (locs : List Loc) (ls : Array Slot), va_P (xsD X) vwCl (wK X kIsKept kIsStale hiLatest hiSize scBytes scTold scLength scFault scAt scNumber piSegmentsNow enKind enX enY enLower enFromX enFromY enToX enToY tiTouching tiLyingAlong tiMeetingPairs tiAlongPairs tiSize evX evY evLower evBundle evCrossingOf evEventOf evLeftEvent evRightEvent evSize evCrossings evSegmentsNow grDegree grEdges grFar grQueue grQueued huX huY huSize huBestX huBestY S Rw) H → va_D (xsF X) (wK X kIsKept kIsStale hiLatest hiSize scBytes scTold scLength scFault scAt scNumber piSegmentsNow enKind enX enY enLower enFromX enFromY enToX enToY tiTouching tiLyingAlong tiMeetingPairs tiAlongPairs tiSize evX evY evLower evBundle evCrossingOf evEventOf evLeftEvent evRightEvent evSize evCrossings evSegmentsNow grDegree grEdges grFar grQueue grQueued huX huY huSize huBestX huBestY S Rw) → va_S (xsF X) s.heap H locs → lv_has ls 17 [(0, .ref (xsA X (27 + 6 * js))), (1, .int a0), (2, .int a1), (3, .int a2), (4, .int a3), (5, .int a4)] → W p l e { frames := 2, cells := 0, slots := 0, locals := 44 } s m ([.ref (xsA X (27 + 6 * js)), .int a0, .int a1, .int a2, .int a3, .int a4] : List Value).toArray below meth c H locs 0 0 (MQ below Qq ([.ref (xsA X (27 + 6 * js)), .int a0, .int a1, .int a2, .int a3, .int a4] : List Value).toArray s 0 0 (xsF X)) (F0 m 65 ls [.int y2]) := by
    intro y2 hf H locs ls hP hD hS hl
    unfold fX7_comesInto_J65 at hf
    refine lv_istore (lv' := [(6, .int y2), (0, .ref (xsA X (27 + 6 * js))), (1, .int a0), (2, .int a1), (3, .int a2), (4, .int a3), (5, .int a4)]) hx hb dX7_comesInto_65 hl (by decide) rfl (fun ls hl => ?_)
    refine lv_iload hx hb dX7_comesInto_67 (lv_at hl 0 rfl) ?_
    refine lv_if_ne (tgt := 74) hx hb dX7_comesInto_69 (by decide) (fun c29 => ?_) (fun c29 => ?_)
    · replace hf := xsBr_f c29 hf
      refine lv_aload_n hx hb dX7_comesInto_74 rfl (lv_at hl 1 rfl) ?_
      refine lv_iload_n hx hb dX7_comesInto_75 rfl (lv_at hl 2 rfl) ?_
      refine lv_iload_n hx hb dX7_comesInto_76 rfl (lv_at hl 3 rfl) ?_
      refine lv_iload_n hx hb dX7_comesInto_77 rfl (lv_at hl 4 rfl) ?_
      replace hf := xsBd_use hf
      obtain ⟨o3, h4, hf⟩ := hf
      refine xs_calll hS (xs_runV (As := [.int a0, .int a1, .int a2]) C (mX7_sideOf l (js := js) hjs hs_s h4) w_1328 w_1330 w_32 w_106 w_1331 hd_X7_sideOf ⟨rfl, rfl, Nat.le_of_ble_eq_true rfl, Nat.le_of_ble_eq_true rfl, Nat.zero_le _, Nat.zero_le _⟩ hP hD hS (xs_lkS hjs) rfl hl.1 rfl (Nat.le_of_ble_eq_true rfl) dX7_comesInto_78) (fun H locs hP hD hS => ?_)
      refine lv_lstore (lv' := [(7, .long o3), (6, .int y2), (0, .ref (xsA X (27 + 6 * js))), (1, .int a0), (2, .int a1), (3, .int a2), (4, .int a3), (5, .int a4)]) hx hb dX7_comesInto_81 hl (by decide) rfl (fun ls hl => ?_)
      refine lv_aload_n hx hb dX7_comesInto_83 rfl (lv_at hl 2 rfl) ?_
      refine lv_iload_n hx hb dX7_comesInto_84 rfl (lv_at hl 3 rfl) ?_
      refine lv_iload_n hx hb dX7_comesInto_85 rfl (lv_at hl 4 rfl) ?_
      refine lv_iload hx hb dX7_comesInto_86 (lv_at hl 7 rfl) ?_
      replace hf := xsBd_use hf
      obtain ⟨o5, h6, hf⟩ := hf
      refine xs_calll hS (xs_runV (As := [.int a0, .int a1, .int a4]) C (mX7_sideOf l (js := js) hjs hs_s h6) w_1328 w_1330 w_32 w_106 w_1331 hd_X7_sideOf ⟨rfl, rfl, Nat.le_of_ble_eq_true rfl, Nat.le_of_ble_eq_true rfl, Nat.zero_le _, Nat.zero_le _⟩ hP hD hS (xs_lkS hjs) rfl hl.1 rfl (Nat.le_of_ble_eq_true rfl) dX7_comesInto_88) (fun H locs hP hD hS => ?_)
      refine lv_lstore (lv' := [(9, .long o5), (7, .long o3), (6, .int y2), (0, .ref (xsA X (27 + 6 * js))), (1, .int a0), (2, .int a1), (3, .int a2), (4, .int a3), (5, .int a4)]) hx hb dX7_comesInto_91 hl (by decide) rfl (fun ls hl => ?_)
      refine lv_aload_n hx hb dX7_comesInto_93 rfl (lv_at hl 3 rfl) ?_
      refine lv_iload_n hx hb dX7_comesInto_94 rfl (lv_at hl 4 rfl) ?_
      refine lv_iload hx hb dX7_comesInto_95 (lv_at hl 7 rfl) ?_
      refine lv_iload_n hx hb dX7_comesInto_97 rfl (lv_at hl 6 rfl) ?_
      replace hf := xsBd_use hf
      obtain ⟨o7, h8, hf⟩ := hf
      refine xs_calll hS (xs_runV (As := [.int a0, .int a3, .int a2]) C (mX7_sideOf l (js := js) hjs hs_s h8) w_1328 w_1330 w_32 w_106 w_1331 hd_X7_sideOf ⟨rfl, rfl, Nat.le_of_ble_eq_true rfl, Nat.le_of_ble_eq_true rfl, Nat.zero_le _, Nat.zero_le _⟩ hP hD hS (xs_lkS hjs) rfl hl.1 rfl (Nat.le_of_ble_eq_true rfl) dX7_comesInto_98) (fun H locs hP hD hS => ?_)
      refine lv_lstore (lv' := [(11, .long o7), (9, .long o5), (7, .long o3), (6, .int y2), (0, .ref (xsA X (27 + 6 * js))), (1, .int a0), (2, .int a1), (3, .int a2), (4, .int a3), (5, .int a4)]) hx hb dX7_comesInto_101 hl (by decide) rfl (fun ls hl => ?_)
      refine lv_aload_n hx hb dX7_comesInto_103 rfl (lv_at hl 4 rfl) ?_
      refine lv_iload_n hx hb dX7_comesInto_104 rfl (lv_at hl 5 rfl) ?_
      refine lv_iload hx hb dX7_comesInto_105 (lv_at hl 8 rfl) ?_
      refine lv_iload hx hb dX7_comesInto_107 (lv_at hl 9 rfl) ?_
      replace hf := xsBd_use hf
      obtain ⟨o9, h10, hf⟩ := hf
      refine xs_calll hS (xs_runV (As := [.int a0, .int a3, .int a4]) C (mX7_sideOf l (js := js) hjs hs_s h10) w_1328 w_1330 w_32 w_106 w_1331 hd_X7_sideOf ⟨rfl, rfl, Nat.le_of_ble_eq_true rfl, Nat.le_of_ble_eq_true rfl, Nat.zero_le _, Nat.zero_le _⟩ hP hD hS (xs_lkS hjs) rfl hl.1 rfl (Nat.le_of_ble_eq_true rfl) dX7_comesInto_109) (fun H locs hP hD hS => ?_)
      refine lv_lstore (lv' := [(13, .long o9), (11, .long o7), (9, .long o5), (7, .long o3), (6, .int y2), (0, .ref (xsA X (27 + 6 * js))), (1, .int a0), (2, .int a1), (3, .int a2), (4, .int a3), (5, .int a4)]) hx hb dX7_comesInto_112 hl (by decide) rfl (fun ls hl => ?_)
      refine lv_lload hx hb dX7_comesInto_114 (lv_at hl 3 rfl) ?_
      refine lv_lconst (v := (0 : Int64)) hx hb dX7_comesInto_116 (by decide) ?_
      have K24 : ∀ (y11 : Int32) (hf : fX7_comesInto_J147 o3 o5 o7 o9 y11 = some out) (H : Heap) (locs : List Loc) (ls : Array Slot), va_P (xsD X) vwCl (wK X kIsKept kIsStale hiLatest hiSize scBytes scTold scLength scFault scAt scNumber piSegmentsNow enKind enX enY enLower enFromX enFromY enToX enToY tiTouching tiLyingAlong tiMeetingPairs tiAlongPairs tiSize evX evY evLower evBundle evCrossingOf evEventOf evLeftEvent evRightEvent evSize evCrossings evSegmentsNow grDegree grEdges grFar grQueue grQueued huX huY huSize huBestX huBestY S Rw) H → va_D (xsF X) (wK X kIsKept kIsStale hiLatest hiSize scBytes scTold scLength scFault scAt scNumber piSegmentsNow enKind enX enY enLower enFromX enFromY enToX enToY tiTouching tiLyingAlong tiMeetingPairs tiAlongPairs tiSize evX evY evLower evBundle evCrossingOf evEventOf evLeftEvent evRightEvent evSize evCrossings evSegmentsNow grDegree grEdges grFar grQueue grQueued huX huY huSize huBestX huBestY S Rw) → va_S (xsF X) s.heap H locs → lv_has ls 17 [(7, .long o3), (9, .long o5), (11, .long o7), (13, .long o9)] → W p l e { frames := 2, cells := 0, slots := 0, locals := 44 } s m ([.ref (xsA X (27 + 6 * js)), .int a0, .int a1, .int a2, .int a3, .int a4] : List Value).toArray below meth c H locs 0 0 (MQ below Qq ([.ref (xsA X (27 + 6 * js)), .int a0, .int a1, .int a2, .int a3, .int a4] : List Value).toArray s 0 0 (xsF X)) (F0 m 147 ls [.int y11]) := by
        intro y11 hf H locs ls hP hD hS hl
        unfold fX7_comesInto_J147 at hf
        refine lv_istore (lv' := [(15, .int y11), (7, .long o3), (9, .long o5), (11, .long o7), (13, .long o9)]) hx hb dX7_comesInto_147 hl (by decide) rfl (fun ls hl => ?_)
        refine lv_lload hx hb dX7_comesInto_149 (lv_at hl 1 rfl) ?_
        refine lv_lconst (v := (0 : Int64)) hx hb dX7_comesInto_151 (by decide) ?_
        have K17 : ∀ (y12 : Int32) (hf : fX7_comesInto_J182 y11 y12 = some out) (H : Heap) (locs : List Loc) (ls : Array Slot), va_P (xsD X) vwCl (wK X kIsKept kIsStale hiLatest hiSize scBytes scTold scLength scFault scAt scNumber piSegmentsNow enKind enX enY enLower enFromX enFromY enToX enToY tiTouching tiLyingAlong tiMeetingPairs tiAlongPairs tiSize evX evY evLower evBundle evCrossingOf evEventOf evLeftEvent evRightEvent evSize evCrossings evSegmentsNow grDegree grEdges grFar grQueue grQueued huX huY huSize huBestX huBestY S Rw) H → va_D (xsF X) (wK X kIsKept kIsStale hiLatest hiSize scBytes scTold scLength scFault scAt scNumber piSegmentsNow enKind enX enY enLower enFromX enFromY enToX enToY tiTouching tiLyingAlong tiMeetingPairs tiAlongPairs tiSize evX evY evLower evBundle evCrossingOf evEventOf evLeftEvent evRightEvent evSize evCrossings evSegmentsNow grDegree grEdges grFar grQueue grQueued huX huY huSize huBestX huBestY S Rw) → va_S (xsF X) s.heap H locs → lv_has ls 17 [(15, .int y11)] → W p l e { frames := 2, cells := 0, slots := 0, locals := 44 } s m ([.ref (xsA X (27 + 6 * js)), .int a0, .int a1, .int a2, .int a3, .int a4] : List Value).toArray below meth c H locs 0 0 (MQ below Qq ([.ref (xsA X (27 + 6 * js)), .int a0, .int a1, .int a2, .int a3, .int a4] : List Value).toArray s 0 0 (xsF X)) (F0 m 182 ls [.int y12]) := by
          intro y12 hf H locs ls hP hD hS hl
          unfold fX7_comesInto_J182 at hf
          refine lv_istore (lv' := [(16, .int y12), (15, .int y11)]) hx hb dX7_comesInto_182 hl (by decide) rfl (fun ls hl => ?_)
          refine lv_iload hx hb dX7_comesInto_184 (lv_at hl 1 rfl) ?_
          refine lv_if_ne (tgt := 198) hx hb dX7_comesInto_186 (by decide) (fun c14 => ?_) (fun c14 => ?_)
          · replace hf := xsBr_f c14 hf
            refine lv_iconst (v := (0 : Int32)) hx hb dX7_comesInto_198 (by decide) ?_
            have ho := Option.some.inj hf
            subst ho
            rw [hQq]
            exact xs_zret C hr hlk xsB_0 hP hD hS dX7_comesInto_199
          · replace hf := xsBr_t c14 hf
            refine lv_iload hx hb dX7_comesInto_189 (lv_at hl 0 rfl) ?_
            refine lv_if_ne (tgt := 198) hx hb dX7_comesInto_191 (by decide) (fun c13 => ?_) (fun c13 => ?_)
            · replace hf := xsBr_f c13 hf
              refine lv_iconst (v := (0 : Int32)) hx hb dX7_comesInto_198 (by decide) ?_
              have ho := Option.some.inj hf
              subst ho
              rw [hQq]
              exact xs_zret C hr hlk xsB_0 hP hD hS dX7_comesInto_199
            · replace hf := xsBr_t c13 hf
              refine lv_iconst (v := (1 : Int32)) hx hb dX7_comesInto_194 (by decide) ?_
              refine lv_goto (tgt := 199) hx hb dX7_comesInto_195 (by decide) ?_
              have ho := Option.some.inj hf
              subst ho
              rw [hQq]
              exact xs_zret C hr hlk xsB_1 hP hD hS dX7_comesInto_199
        replace hf := xsBd_use hf
        obtain ⟨v15, hf, hk16⟩ := hf
        refine xs_lcmp_ge (tgt := 181) C dX7_comesInto_152 dX7_comesInto_153 (by decide) (fun c21 => ?_) (fun c21 => ?_)
        · replace hf := xsBr_t c21 hf
          refine lv_iconst (v := (0 : Int32)) hx hb dX7_comesInto_181 (by decide) ?_
          have ev := Option.some.inj hf
          subst ev
          exact K17 (0 : Int32) hk16 H locs ls hP hD hS (lv_sub hl [0] rfl)
        · replace hf := xsBr_f c21 hf
          refine lv_lload hx hb dX7_comesInto_156 (lv_at hl 2 rfl) ?_
          refine lv_lconst (v := (0 : Int64)) hx hb dX7_comesInto_158 (by decide) ?_
          refine xs_lcmp_ge (tgt := 181) C dX7_comesInto_159 dX7_comesInto_160 (by decide) (fun c20 => ?_) (fun c20 => ?_)
          · replace hf := xsBr_t c20 hf
            refine lv_iconst (v := (0 : Int32)) hx hb dX7_comesInto_181 (by decide) ?_
            have ev := Option.some.inj hf
            subst ev
            exact K17 (0 : Int32) hk16 H locs ls hP hD hS (lv_sub hl [0] rfl)
          · replace hf := xsBr_f c20 hf
            refine lv_lload hx hb dX7_comesInto_163 (lv_at hl 3 rfl) ?_
            refine lv_lconst (v := (0 : Int64)) hx hb dX7_comesInto_165 (by decide) ?_
            refine xs_lcmp_ge (tgt := 181) C dX7_comesInto_166 dX7_comesInto_167 (by decide) (fun c19 => ?_) (fun c19 => ?_)
            · replace hf := xsBr_t c19 hf
              refine lv_iconst (v := (0 : Int32)) hx hb dX7_comesInto_181 (by decide) ?_
              have ev := Option.some.inj hf
              subst ev
              exact K17 (0 : Int32) hk16 H locs ls hP hD hS (lv_sub hl [0] rfl)
            · replace hf := xsBr_f c19 hf
              refine lv_lload hx hb dX7_comesInto_170 (lv_at hl 4 rfl) ?_
              refine lv_lconst (v := (0 : Int64)) hx hb dX7_comesInto_172 (by decide) ?_
              refine xs_lcmp_ge (tgt := 181) C dX7_comesInto_173 dX7_comesInto_174 (by decide) (fun c18 => ?_) (fun c18 => ?_)
              · replace hf := xsBr_t c18 hf
                refine lv_iconst (v := (0 : Int32)) hx hb dX7_comesInto_181 (by decide) ?_
                have ev := Option.some.inj hf
                subst ev
                exact K17 (0 : Int32) hk16 H locs ls hP hD hS (lv_sub hl [0] rfl)
              · replace hf := xsBr_f c18 hf
                refine lv_iconst (v := (1 : Int32)) hx hb dX7_comesInto_177 (by decide) ?_
                refine lv_goto (tgt := 182) hx hb dX7_comesInto_178 (by decide) ?_
                have ev := Option.some.inj hf
                subst ev
                exact K17 (1 : Int32) hk16 H locs ls hP hD hS (lv_sub hl [0] rfl)
      replace hf := xsBd_use hf
      obtain ⟨v22, hf, hk23⟩ := hf
      refine xs_lcmp_le (tgt := 146) C dX7_comesInto_117 dX7_comesInto_118 (by decide) (fun c28 => ?_) (fun c28 => ?_)
      · replace hf := xsBr_t c28 hf
        refine lv_iconst (v := (0 : Int32)) hx hb dX7_comesInto_146 (by decide) ?_
        have ev := Option.some.inj hf
        subst ev
        exact K24 (0 : Int32) hk23 H locs ls hP hD hS (lv_sub hl [3, 2, 1, 0] rfl)
      · replace hf := xsBr_f c28 hf
        refine lv_lload hx hb dX7_comesInto_121 (lv_at hl 2 rfl) ?_
        refine lv_lconst (v := (0 : Int64)) hx hb dX7_comesInto_123 (by decide) ?_
        refine xs_lcmp_le (tgt := 146) C dX7_comesInto_124 dX7_comesInto_125 (by decide) (fun c27 => ?_) (fun c27 => ?_)
        · replace hf := xsBr_t c27 hf
          refine lv_iconst (v := (0 : Int32)) hx hb dX7_comesInto_146 (by decide) ?_
          have ev := Option.some.inj hf
          subst ev
          exact K24 (0 : Int32) hk23 H locs ls hP hD hS (lv_sub hl [3, 2, 1, 0] rfl)
        · replace hf := xsBr_f c27 hf
          refine lv_lload hx hb dX7_comesInto_128 (lv_at hl 1 rfl) ?_
          refine lv_lconst (v := (0 : Int64)) hx hb dX7_comesInto_130 (by decide) ?_
          refine xs_lcmp_le (tgt := 146) C dX7_comesInto_131 dX7_comesInto_132 (by decide) (fun c26 => ?_) (fun c26 => ?_)
          · replace hf := xsBr_t c26 hf
            refine lv_iconst (v := (0 : Int32)) hx hb dX7_comesInto_146 (by decide) ?_
            have ev := Option.some.inj hf
            subst ev
            exact K24 (0 : Int32) hk23 H locs ls hP hD hS (lv_sub hl [3, 2, 1, 0] rfl)
          · replace hf := xsBr_f c26 hf
            refine lv_lload hx hb dX7_comesInto_135 (lv_at hl 0 rfl) ?_
            refine lv_lconst (v := (0 : Int64)) hx hb dX7_comesInto_137 (by decide) ?_
            refine xs_lcmp_le (tgt := 146) C dX7_comesInto_138 dX7_comesInto_139 (by decide) (fun c25 => ?_) (fun c25 => ?_)
            · replace hf := xsBr_t c25 hf
              refine lv_iconst (v := (0 : Int32)) hx hb dX7_comesInto_146 (by decide) ?_
              have ev := Option.some.inj hf
              subst ev
              exact K24 (0 : Int32) hk23 H locs ls hP hD hS (lv_sub hl [3, 2, 1, 0] rfl)
            · replace hf := xsBr_f c25 hf
              refine lv_iconst (v := (1 : Int32)) hx hb dX7_comesInto_142 (by decide) ?_
              refine lv_goto (tgt := 147) hx hb dX7_comesInto_143 (by decide) ?_
              have ev := Option.some.inj hf
              subst ev
              exact K24 (1 : Int32) hk23 H locs ls hP hD hS (lv_sub hl [3, 2, 1, 0] rfl)
    · replace hf := xsBr_t c29 hf
      refine lv_iconst (v := (0 : Int32)) hx hb dX7_comesInto_72 (by decide) ?_
      have ho := Option.some.inj hf
      subst ho
      rw [hQq]
      exact xs_zret C hr hlk xsB_0 hP hD hS dX7_comesInto_73
  replace hf := xsBd_use hf
  obtain ⟨v30, hf, hk31⟩ := hf
  refine lv_icmp_gt (tgt := 64) hx hb dX7_comesInto_8 (by decide) (fun c41 => ?_) (fun c41 => ?_)
  · replace hf := xsBr_t c41 hf
    refine lv_iconst (v := (0 : Int32)) hx hb dX7_comesInto_64 (by decide) ?_
    have ev := Option.some.inj hf
    subst ev
    exact K32 (0 : Int32) hk31 H locs ls hP hD hS (lv_sub hl [0, 1, 2, 3, 4, 5] rfl)
  · replace hf := xsBr_f c41 hf
    refine lv_aload_n hx hb dX7_comesInto_11 rfl (lv_at hl 0 rfl) ?_
    refine xg_X7_18 (j := js) hjs C hP dX7_comesInto_12 ?_
    refine lv_iload_n hx hb dX7_comesInto_15 rfl (lv_at hl 1 rfl) ?_
    replace hf := xsCk_use hf
    obtain ⟨h33, hf⟩ := hf
    refine xl_s2 (j := js) hjs hs_s C hP h33 dX7_comesInto_16 ?_
    refine lv_iload_n hx hb dX7_comesInto_17 rfl (lv_at hl 2 rfl) ?_
    refine lv_icmp_lt (tgt := 64) hx hb dX7_comesInto_18 (by decide) (fun c40 => ?_) (fun c40 => ?_)
    · replace hf := xsBr_t c40 hf
      refine lv_iconst (v := (0 : Int32)) hx hb dX7_comesInto_64 (by decide) ?_
      have ev := Option.some.inj hf
      subst ev
      exact K32 (0 : Int32) hk31 H locs ls hP hD hS (lv_sub hl [0, 1, 2, 3, 4, 5] rfl)
    · replace hf := xsBr_f c40 hf
      refine lv_aload_n hx hb dX7_comesInto_21 rfl (lv_at hl 0 rfl) ?_
      refine xg_X7_15 (j := js) hjs C hP dX7_comesInto_22 ?_
      refine lv_iload_n hx hb dX7_comesInto_25 rfl (lv_at hl 1 rfl) ?_
      replace hf := xsCk_use hf
      obtain ⟨h34, hf⟩ := hf
      refine xl_s1 (j := js) hjs hs_s C hP h34 dX7_comesInto_26 ?_
      refine lv_aload_n hx hb dX7_comesInto_27 rfl (lv_at hl 0 rfl) ?_
      refine xg_X7_21 (j := js) hjs C hP dX7_comesInto_28 ?_
      refine lv_iload_n hx hb dX7_comesInto_31 rfl (lv_at hl 1 rfl) ?_
      replace hf := xsCk_use hf
      obtain ⟨h35, hf⟩ := hf
      refine xl_s3 (j := js) hjs hs_s C hP h35 dX7_comesInto_32 ?_
      refine va_mmin hx hb (C.2.2.1.trans hl.1.symm) C.2.2.2.1 (xs_kts C _ w_1326) (xs_kts C _ w_525) (xs_kts C _ w_125) (xs_kts C _ w_526) (Nat.le_of_ble_eq_true rfl) (Nat.le_of_ble_eq_true rfl) (Nat.zero_le _) (Nat.zero_le _) dX7_comesInto_33 ?_
      refine lv_iload hx hb dX7_comesInto_36 (lv_at hl 5 rfl) ?_
      refine lv_icmp_gt (tgt := 64) hx hb dX7_comesInto_38 (by decide) (fun c39 => ?_) (fun c39 => ?_)
      · replace hf := xsBr_t c39 hf
        refine lv_iconst (v := (0 : Int32)) hx hb dX7_comesInto_64 (by decide) ?_
        have ev := Option.some.inj hf
        subst ev
        exact K32 (0 : Int32) hk31 H locs ls hP hD hS (lv_sub hl [0, 1, 2, 3, 4, 5] rfl)
      · replace hf := xsBr_f c39 hf
        refine lv_aload_n hx hb dX7_comesInto_41 rfl (lv_at hl 0 rfl) ?_
        refine xg_X7_15 (j := js) hjs C hP dX7_comesInto_42 ?_
        refine lv_iload_n hx hb dX7_comesInto_45 rfl (lv_at hl 1 rfl) ?_
        replace hf := xsCk_use hf
        obtain ⟨h36, hf⟩ := hf
        refine xl_s1 (j := js) hjs hs_s C hP h36 dX7_comesInto_46 ?_
        refine lv_aload_n hx hb dX7_comesInto_47 rfl (lv_at hl 0 rfl) ?_
        refine xg_X7_21 (j := js) hjs C hP dX7_comesInto_48 ?_
        refine lv_iload_n hx hb dX7_comesInto_51 rfl (lv_at hl 1 rfl) ?_
        replace hf := xsCk_use hf
        obtain ⟨h37, hf⟩ := hf
        refine xl_s3 (j := js) hjs hs_s C hP h37 dX7_comesInto_52 ?_
        refine va_mmax hx hb (C.2.2.1.trans hl.1.symm) C.2.2.2.1 (xs_kts C _ w_1327) (xs_kts C _ w_697) (xs_kts C _ w_125) (xs_kts C _ w_698) (Nat.le_of_ble_eq_true rfl) (Nat.le_of_ble_eq_true rfl) (Nat.zero_le _) (Nat.zero_le _) dX7_comesInto_53 ?_
        refine lv_iload_n hx hb dX7_comesInto_56 rfl (lv_at hl 3 rfl) ?_
        refine lv_icmp_lt (tgt := 64) hx hb dX7_comesInto_57 (by decide) (fun c38 => ?_) (fun c38 => ?_)
        · replace hf := xsBr_t c38 hf
          refine lv_iconst (v := (0 : Int32)) hx hb dX7_comesInto_64 (by decide) ?_
          have ev := Option.some.inj hf
          subst ev
          exact K32 (0 : Int32) hk31 H locs ls hP hD hS (lv_sub hl [0, 1, 2, 3, 4, 5] rfl)
        · replace hf := xsBr_f c38 hf
          refine lv_iconst (v := (1 : Int32)) hx hb dX7_comesInto_60 (by decide) ?_
          refine lv_goto (tgt := 65) hx hb dX7_comesInto_61 (by decide) ?_
          have ev := Option.some.inj hf
          subst ev
          exact K32 (1 : Int32) hk31 H locs ls hP hD hS (lv_sub hl [0, 1, 2, 3, 4, 5] rfl)
set_option maxRecDepth 100000 in
set_option maxHeartbeats 8000000 in
theorem mX7_ofTint (l : Launch) {X : xsX} {kIsKept kIsStale hiLatest hiSize scLength scFault scAt scNumber piSegmentsNow enKind enFromX enFromY enToX enToY tiMeetingPairs tiAlongPairs tiSize evSize evCrossings evSegmentsNow grEdges grQueued huSize huBestX huBestY : Int32} {scBytes scTold tiTouching tiLyingAlong evBundle evCrossingOf evEventOf evLeftEvent evRightEvent grDegree grFar grQueue huX huY : Nat → Int32} {enX enY enLower : Int64} {evX evY evLower : Nat → Int64} {S : Nat → xsV} {Rw : va_W} {js : Nat} (hjs : js < 12) {sLx sLy sRx sRy sTi : Nat → Int32} {sSz : Int32} (hs_s : S js = (sLx, sLy, sRx, sRy, sTi, sSz)) {a0 : Int32} {out : Int32} (hf : fX7_ofTint sTi sSz a0 = some out) : Met l yX7_ofTint (xsWs yX7_ofTint cX7_ofTint 4 (some .int)) { frames := 0, cells := 0, slots := 0, locals := 0 } (xsP X (wK X kIsKept kIsStale hiLatest hiSize scBytes scTold scLength scFault scAt scNumber piSegmentsNow enKind enX enY enLower enFromX enFromY enToX enToY tiTouching tiLyingAlong tiMeetingPairs tiAlongPairs tiSize evX evY evLower evBundle evCrossingOf evEventOf evLeftEvent evRightEvent evSize evCrossings evSegmentsNow grDegree grEdges grFar grQueue grQueued huX huY huSize huBestX huBestY S Rw) [.ref (xsA X (27 + 6 * js)), .int a0]) (xsQi X out (wK X kIsKept kIsStale hiLatest hiSize scBytes scTold scLength scFault scAt scNumber piSegmentsNow enKind enX enY enLower enFromX enFromY enToX enToY tiTouching tiLyingAlong tiMeetingPairs tiAlongPairs tiSize evX evY evLower evBundle evCrossingOf evEventOf evLeftEvent evRightEvent evSize evCrossings evSegmentsNow grDegree grEdges grFar grQueue grQueued huX huY huSize huBestX huBestY S Rw)) 0 0 (xsF X) := by
  refine xs_meth RX7 (by decide) rfl (Nat.le_of_ble_eq_true rfl) ?_
  intro p e s m below meth c ls H locs C hP hD hS hr hlk hl
  have hx := C.1
  have hb := C.2.1
  have hl : lv_has ls 4 [(0, .ref (xsA X (27 + 6 * js))), (1, .int a0)] := hl
  obtain ⟨Qq, hQq⟩ : ∃ Qq, Qq = xsQi X out (wK X kIsKept kIsStale hiLatest hiSize scBytes scTold scLength scFault scAt scNumber piSegmentsNow enKind enX enY enLower enFromX enFromY enToX enToY tiTouching tiLyingAlong tiMeetingPairs tiAlongPairs tiSize evX evY evLower evBundle evCrossingOf evEventOf evLeftEvent evRightEvent evSize evCrossings evSegmentsNow grDegree grEdges grFar grQueue grQueued huX huY huSize huBestX huBestY S Rw) := ⟨_, rfl⟩
  rw [← hQq]
  unfold fX7_ofTint at hf
  refine lv_iconst (v := (0 : Int32)) hx hb dX7_ofTint_0 (by decide) ?_
  refine lv_istore_n (lv' := [(2, .int (0 : Int32)), (0, .ref (xsA X (27 + 6 * js))), (1, .int a0)]) hx hb dX7_ofTint_1 rfl hl (by decide) rfl (fun ls hl => ?_)
  refine lv_iconst (v := (0 : Int32)) hx hb dX7_ofTint_2 (by decide) ?_
  refine lv_istore_n (lv' := [(3, .int (0 : Int32)), (2, .int (0 : Int32)), (0, .ref (xsA X (27 + 6 * js))), (1, .int a0)]) hx hb dX7_ofTint_3 rfl hl (by decide) rfl (fun ls hl => ?_)
  have K3 : ∀ (y4 : Int32) (hf : fX7_ofTint_J34 y4 = some out) (H : Heap) (locs : List Loc) (ls : Array Slot), va_P (xsD X) vwCl (wK X kIsKept kIsStale hiLatest hiSize scBytes scTold scLength scFault scAt scNumber piSegmentsNow enKind enX enY enLower enFromX enFromY enToX enToY tiTouching tiLyingAlong tiMeetingPairs tiAlongPairs tiSize evX evY evLower evBundle evCrossingOf evEventOf evLeftEvent evRightEvent evSize evCrossings evSegmentsNow grDegree grEdges grFar grQueue grQueued huX huY huSize huBestX huBestY S Rw) H → va_D (xsF X) (wK X kIsKept kIsStale hiLatest hiSize scBytes scTold scLength scFault scAt scNumber piSegmentsNow enKind enX enY enLower enFromX enFromY enToX enToY tiTouching tiLyingAlong tiMeetingPairs tiAlongPairs tiSize evX evY evLower evBundle evCrossingOf evEventOf evLeftEvent evRightEvent evSize evCrossings evSegmentsNow grDegree grEdges grFar grQueue grQueued huX huY huSize huBestX huBestY S Rw) → va_S (xsF X) s.heap H locs → lv_has ls 4 [(2, .int y4)] → W p l e { frames := 0, cells := 0, slots := 0, locals := 0 } s m ([.ref (xsA X (27 + 6 * js)), .int a0] : List Value).toArray below meth c H locs 0 0 (MQ below Qq ([.ref (xsA X (27 + 6 * js)), .int a0] : List Value).toArray s 0 0 (xsF X)) (F0 m 34 ls []) := by
    intro y4 hf H locs ls hP hD hS hl
    unfold fX7_ofTint_J34 at hf
    refine lv_iload_n hx hb dX7_ofTint_34 rfl (lv_at hl 0 rfl) ?_
    have ho := Option.some.inj hf
    subst ho
    rw [hQq]
    exact xs_iret C hr hlk hP hD hS dX7_ofTint_35
  replace hf := xsBd_use hf
  obtain ⟨r3, hk30, hf⟩ := hf
  have L3 : ∀ (sg : Int32 × Int32) (rg : Int32), xsWh (fun s3 => fX7_ofTint_L4 sTi sSz a0 s3.1 s3.2) sg = some rg → (fX7_ofTint_J34 rg = some out → ∀ (H : Heap) (locs : List Loc) (ls : Array Slot), va_P (xsD X) vwCl (wK X kIsKept kIsStale hiLatest hiSize scBytes scTold scLength scFault scAt scNumber piSegmentsNow enKind enX enY enLower enFromX enFromY enToX enToY tiTouching tiLyingAlong tiMeetingPairs tiAlongPairs tiSize evX evY evLower evBundle evCrossingOf evEventOf evLeftEvent evRightEvent evSize evCrossings evSegmentsNow grDegree grEdges grFar grQueue grQueued huX huY huSize huBestX huBestY S Rw) H → va_D (xsF X) (wK X kIsKept kIsStale hiLatest hiSize scBytes scTold scLength scFault scAt scNumber piSegmentsNow enKind enX enY enLower enFromX enFromY enToX enToY tiTouching tiLyingAlong tiMeetingPairs tiAlongPairs tiSize evX evY evLower evBundle evCrossingOf evEventOf evLeftEvent evRightEvent evSize evCrossings evSegmentsNow grDegree grEdges grFar grQueue grQueued huX huY huSize huBestX huBestY S Rw) → va_S (xsF X) s.heap H locs → lv_has ls 4 [(0, .ref (xsA X (27 + 6 * js))), (1, .int a0), (2, .int sg.1), (3, .int sg.2)] → W p l e { frames := 0, cells := 0, slots := 0, locals := 0 } s m ([.ref (xsA X (27 + 6 * js)), .int a0] : List Value).toArray below meth c H locs 0 0 (MQ below Qq ([.ref (xsA X (27 + 6 * js)), .int a0] : List Value).toArray s 0 0 (xsF X)) (F0 m 4 ls [])) := by
    refine xsWh_ind ?_
    intro sg r3 u3 hf ih3 hx3 hk3 H locs ls hP hD hS hl
    obtain ⟨y1, y2⟩ := sg
    replace hf : fX7_ofTint_L4 sTi sSz a0 y1 y2 = some u3 := hf
    replace hl : lv_has ls 4 [(0, .ref (xsA X (27 + 6 * js))), (1, .int a0), (2, .int y1), (3, .int y2)] := hl
    replace hP : va_P (xsD X) vwCl (wK X kIsKept kIsStale hiLatest hiSize scBytes scTold scLength scFault scAt scNumber piSegmentsNow enKind enX enY enLower enFromX enFromY enToX enToY tiTouching tiLyingAlong tiMeetingPairs tiAlongPairs tiSize evX evY evLower evBundle evCrossingOf evEventOf evLeftEvent evRightEvent evSize evCrossings evSegmentsNow grDegree grEdges grFar grQueue grQueued huX huY huSize huBestX huBestY S Rw) H := hP
    replace hD : va_D (xsF X) (wK X kIsKept kIsStale hiLatest hiSize scBytes scTold scLength scFault scAt scNumber piSegmentsNow enKind enX enY enLower enFromX enFromY enToX enToY tiTouching tiLyingAlong tiMeetingPairs tiAlongPairs tiSize evX evY evLower evBundle evCrossingOf evEventOf evLeftEvent evRightEvent evSize evCrossings evSegmentsNow grDegree grEdges grFar grQueue grQueued huX huY huSize huBestX huBestY S Rw) := hD
    unfold fX7_ofTint_L4 at hf
    refine lv_iload_n hx hb dX7_ofTint_4 rfl (lv_at hl 3 rfl) ?_
    refine lv_aload_n hx hb dX7_ofTint_5 rfl (lv_at hl 0 rfl) ?_
    refine xg_X7_27 (j := js) hjs hs_s C hP dX7_ofTint_6 ?_
    refine lv_icmp_ge (tgt := 34) hx hb dX7_ofTint_9 (by decide) (fun c13 => ?_) (fun c13 => ?_)
    · replace hf := xsBr_t c13 hf
      have ez := hx3 _ (Option.some.inj hf).symm
      subst ez
      exact K3 y1 hk3 H locs ls hP hD hS (lv_sub hl [2] rfl)
    · replace hf := xsBr_f c13 hf
      refine lv_aload_n hx hb dX7_ofTint_12 rfl (lv_at hl 0 rfl) ?_
      refine xg_X7_24 (j := js) hjs C hP dX7_ofTint_13 ?_
      refine lv_iload_n hx hb dX7_ofTint_16 rfl (lv_at hl 3 rfl) ?_
      replace hf := xsCk_use hf
      obtain ⟨h5, hf⟩ := hf
      refine xl_s4 (j := js) hjs hs_s C hP h5 dX7_ofTint_17 ?_
      refine lv_iload_n hx hb dX7_ofTint_18 rfl (lv_at hl 1 rfl) ?_
      have K10 : ∀ (y6 : Int32) (hf : fX7_ofTint_J28 y2 y6 = some u3) (H : Heap) (locs : List Loc) (ls : Array Slot), va_P (xsD X) vwCl (wK X kIsKept kIsStale hiLatest hiSize scBytes scTold scLength scFault scAt scNumber piSegmentsNow enKind enX enY enLower enFromX enFromY enToX enToY tiTouching tiLyingAlong tiMeetingPairs tiAlongPairs tiSize evX evY evLower evBundle evCrossingOf evEventOf evLeftEvent evRightEvent evSize evCrossings evSegmentsNow grDegree grEdges grFar grQueue grQueued huX huY huSize huBestX huBestY S Rw) H → va_D (xsF X) (wK X kIsKept kIsStale hiLatest hiSize scBytes scTold scLength scFault scAt scNumber piSegmentsNow enKind enX enY enLower enFromX enFromY enToX enToY tiTouching tiLyingAlong tiMeetingPairs tiAlongPairs tiSize evX evY evLower evBundle evCrossingOf evEventOf evLeftEvent evRightEvent evSize evCrossings evSegmentsNow grDegree grEdges grFar grQueue grQueued huX huY huSize huBestX huBestY S Rw) → va_S (xsF X) s.heap H locs → lv_has ls 4 [(0, .ref (xsA X (27 + 6 * js))), (1, .int a0), (2, .int y6), (3, .int y2)] → W p l e { frames := 0, cells := 0, slots := 0, locals := 0 } s m ([.ref (xsA X (27 + 6 * js)), .int a0] : List Value).toArray below meth c H locs 0 0 (MQ below Qq ([.ref (xsA X (27 + 6 * js)), .int a0] : List Value).toArray s 0 0 (xsF X)) (F0 m 28 ls []) := by
        intro y6 hf H locs ls hP hD hS hl
        unfold fX7_ofTint_J28 at hf
        obtain ⟨x7, ex7⟩ : ∃ y : Int32, y = y2 + (1 : Int32) := ⟨_, rfl⟩
        replace hf := xsLt_use ex7 hf
        refine lv_iinc (v := x7) (lv' := [(3, .int x7), (0, .ref (xsA X (27 + 6 * js))), (1, .int a0), (2, .int y6)]) hx hb dX7_ofTint_28 hl (k := 3) rfl (by rw [ex7]; rfl) (by decide) rfl (fun ls hl => ?_)
        refine lv_goto (tgt := 4) hx hb dX7_ofTint_31 (by decide) ?_
        exact ih3 _ (Option.some.inj hf).symm hk3 H locs ls hP hD hS (lv_sub hl [1, 2, 3, 0] rfl)
      replace hf := xsBd_use hf
      obtain ⟨v8, hf, hk9⟩ := hf
      refine lv_icmp_ne (tgt := 28) hx hb dX7_ofTint_19 (by decide) (fun c12 => ?_) (fun c12 => ?_)
      · replace hf := xsBr_f c12 hf
        have ev := Option.some.inj hf
        subst ev
        exact K10 y1 hk9 H locs ls hP hD hS (lv_sub hl [0, 1, 2, 3] rfl)
      · replace hf := xsBr_t c12 hf
        refine lv_iload_n hx hb dX7_ofTint_22 rfl (lv_at hl 2 rfl) ?_
        refine lv_iconst (v := (1 : Int32)) hx hb dX7_ofTint_23 (by decide) ?_
        refine lv_iload_n hx hb dX7_ofTint_24 rfl (lv_at hl 3 rfl) ?_
        refine lv_ishl hx hb dX7_ofTint_25 ?_
        refine lv_ior hx hb dX7_ofTint_26 ?_
        refine lv_topi (fun x11 ex11 => ?_)
        replace hf := xsLt_use ex11 hf
        refine lv_istore_n (lv' := [(2, .int x11), (0, .ref (xsA X (27 + 6 * js))), (1, .int a0), (3, .int y2)]) hx hb dX7_ofTint_27 rfl hl (by decide) rfl (fun ls hl => ?_)
        have ev := Option.some.inj hf
        subst ev
        exact K10 x11 hk9 H locs ls hP hD hS (lv_sub hl [1, 2, 0, 3] rfl)
  exact L3 ((0 : Int32), (0 : Int32)) r3 hk30 hf H locs ls hP hD hS (lv_sub hl [2, 3, 1, 0] rfl)
set_option maxRecDepth 100000 in
set_option maxHeartbeats 8000000 in
theorem mX10_has (l : Launch) {X : xsX} {w : va_W} {a0 : Int32} {a1 : Int32} {out : Int32} (hf : fX10_has a0 a1 = some out) : Met l yX10_has (xsWs yX10_has cX10_has 2 (some .boolean)) { frames := 0, cells := 0, slots := 0, locals := 0 } (xsP X (w) [.int a0, .int a1]) (xsQi X out (w)) 0 0 (xsF X) := by
  refine xs_meth RX10 (by decide) rfl (Nat.le_of_ble_eq_true rfl) ?_
  intro p e s m below meth c ls H locs C hP hD hS hr hlk hl
  have hx := C.1
  have hb := C.2.1
  have hl : lv_has ls 2 [(0, .int a0), (1, .int a1)] := hl
  obtain ⟨Qq, hQq⟩ : ∃ Qq, Qq = xsQi X out (w) := ⟨_, rfl⟩
  rw [← hQq]
  unfold fX10_has at hf
  refine lv_iload_n hx hb dX10_has_0 rfl (lv_at hl 0 rfl) ?_
  refine lv_iload_n hx hb dX10_has_1 rfl (lv_at hl 1 rfl) ?_
  refine lv_ishr hx hb dX10_has_2 ?_
  refine lv_iconst (v := (1 : Int32)) hx hb dX10_has_3 (by decide) ?_
  refine lv_iand hx hb dX10_has_4 ?_
  refine lv_if_eq (tgt := 12) hx hb dX10_has_5 (by decide) (fun c1 => ?_) (fun c1 => ?_)
  · replace hf := xsBr_t c1 hf
    refine lv_iconst (v := (0 : Int32)) hx hb dX10_has_12 (by decide) ?_
    have ho := Option.some.inj hf
    subst ho
    rw [hQq]
    exact xs_zret C hr hlk xsB_0 hP hD hS dX10_has_13
  · replace hf := xsBr_f c1 hf
    refine lv_iconst (v := (1 : Int32)) hx hb dX10_has_8 (by decide) ?_
    refine lv_goto (tgt := 13) hx hb dX10_has_9 (by decide) ?_
    have ho := Option.some.inj hf
    subst ho
    rw [hQq]
    exact xs_zret C hr hlk xsB_1 hP hD hS dX10_has_13
set_option maxRecDepth 100000 in
set_option maxHeartbeats 8000000 in
theorem mX7_tintsOf (l : Launch) {X : xsX} {kIsKept kIsStale hiLatest hiSize scLength scFault scAt scNumber piSegmentsNow enKind enFromX enFromY enToX enToY tiMeetingPairs tiAlongPairs tiSize evSize evCrossings evSegmentsNow grEdges grQueued huSize huBestX huBestY : Int32} {scBytes scTold tiTouching tiLyingAlong evBundle evCrossingOf evEventOf evLeftEvent evRightEvent grDegree grFar grQueue huX huY : Nat → Int32} {enX enY enLower : Int64} {evX evY evLower : Nat → Int64} {S : Nat → xsV} {Rw : va_W} {js : Nat} (hjs : js < 12) {sLx sLy sRx sRy sTi : Nat → Int32} {sSz : Int32} (hs_s : S js = (sLx, sLy, sRx, sRy, sTi, sSz)) {a0 : Int32} {out : Int32} (hf : fX7_tintsOf sTi sSz a0 = some out) : Met l yX7_tintsOf (xsWs yX7_tintsOf cX7_tintsOf 4 (some .int)) { frames := 1, cells := 0, slots := 0, locals := 21 } (xsP X (wK X kIsKept kIsStale hiLatest hiSize scBytes scTold scLength scFault scAt scNumber piSegmentsNow enKind enX enY enLower enFromX enFromY enToX enToY tiTouching tiLyingAlong tiMeetingPairs tiAlongPairs tiSize evX evY evLower evBundle evCrossingOf evEventOf evLeftEvent evRightEvent evSize evCrossings evSegmentsNow grDegree grEdges grFar grQueue grQueued huX huY huSize huBestX huBestY S Rw) [.ref (xsA X (27 + 6 * js)), .int a0]) (xsQi X out (wK X kIsKept kIsStale hiLatest hiSize scBytes scTold scLength scFault scAt scNumber piSegmentsNow enKind enX enY enLower enFromX enFromY enToX enToY tiTouching tiLyingAlong tiMeetingPairs tiAlongPairs tiSize evX evY evLower evBundle evCrossingOf evEventOf evLeftEvent evRightEvent evSize evCrossings evSegmentsNow grDegree grEdges grFar grQueue grQueued huX huY huSize huBestX huBestY S Rw)) 0 0 (xsF X) := by
  refine xs_meth RX7 (by decide) rfl (Nat.le_of_ble_eq_true rfl) ?_
  intro p e s m below meth c ls H locs C hP hD hS hr hlk hl
  have hx := C.1
  have hb := C.2.1
  have hl : lv_has ls 4 [(0, .ref (xsA X (27 + 6 * js))), (1, .int a0)] := hl
  obtain ⟨Qq, hQq⟩ : ∃ Qq, Qq = xsQi X out (wK X kIsKept kIsStale hiLatest hiSize scBytes scTold scLength scFault scAt scNumber piSegmentsNow enKind enX enY enLower enFromX enFromY enToX enToY tiTouching tiLyingAlong tiMeetingPairs tiAlongPairs tiSize evX evY evLower evBundle evCrossingOf evEventOf evLeftEvent evRightEvent evSize evCrossings evSegmentsNow grDegree grEdges grFar grQueue grQueued huX huY huSize huBestX huBestY S Rw) := ⟨_, rfl⟩
  rw [← hQq]
  unfold fX7_tintsOf at hf
  refine lv_iconst (v := (0 : Int32)) hx hb dX7_tintsOf_0 (by decide) ?_
  refine lv_istore_n (lv' := [(2, .int (0 : Int32)), (0, .ref (xsA X (27 + 6 * js))), (1, .int a0)]) hx hb dX7_tintsOf_1 rfl hl (by decide) rfl (fun ls hl => ?_)
  refine lv_iconst (v := (0 : Int32)) hx hb dX7_tintsOf_2 (by decide) ?_
  refine lv_istore_n (lv' := [(3, .int (0 : Int32)), (2, .int (0 : Int32)), (0, .ref (xsA X (27 + 6 * js))), (1, .int a0)]) hx hb dX7_tintsOf_3 rfl hl (by decide) rfl (fun ls hl => ?_)
  have K3 : ∀ (y4 : Int32) (hf : fX7_tintsOf_J37 y4 = some out) (H : Heap) (locs : List Loc) (ls : Array Slot), va_P (xsD X) vwCl (wK X kIsKept kIsStale hiLatest hiSize scBytes scTold scLength scFault scAt scNumber piSegmentsNow enKind enX enY enLower enFromX enFromY enToX enToY tiTouching tiLyingAlong tiMeetingPairs tiAlongPairs tiSize evX evY evLower evBundle evCrossingOf evEventOf evLeftEvent evRightEvent evSize evCrossings evSegmentsNow grDegree grEdges grFar grQueue grQueued huX huY huSize huBestX huBestY S Rw) H → va_D (xsF X) (wK X kIsKept kIsStale hiLatest hiSize scBytes scTold scLength scFault scAt scNumber piSegmentsNow enKind enX enY enLower enFromX enFromY enToX enToY tiTouching tiLyingAlong tiMeetingPairs tiAlongPairs tiSize evX evY evLower evBundle evCrossingOf evEventOf evLeftEvent evRightEvent evSize evCrossings evSegmentsNow grDegree grEdges grFar grQueue grQueued huX huY huSize huBestX huBestY S Rw) → va_S (xsF X) s.heap H locs → lv_has ls 4 [(2, .int y4)] → W p l e { frames := 1, cells := 0, slots := 0, locals := 21 } s m ([.ref (xsA X (27 + 6 * js)), .int a0] : List Value).toArray below meth c H locs 0 0 (MQ below Qq ([.ref (xsA X (27 + 6 * js)), .int a0] : List Value).toArray s 0 0 (xsF X)) (F0 m 37 ls []) := by
    intro y4 hf H locs ls hP hD hS hl
    unfold fX7_tintsOf_J37 at hf
    refine lv_iload_n hx hb dX7_tintsOf_37 rfl (lv_at hl 0 rfl) ?_
    have ho := Option.some.inj hf
    subst ho
    rw [hQq]
    exact xs_iret C hr hlk hP hD hS dX7_tintsOf_38
  replace hf := xsBd_use hf
  obtain ⟨r3, hk30, hf⟩ := hf
  have L3 : ∀ (sg : Int32 × Int32) (rg : Int32), xsWh (fun s3 => fX7_tintsOf_L4 sTi sSz a0 s3.1 s3.2) sg = some rg → (fX7_tintsOf_J37 rg = some out → ∀ (H : Heap) (locs : List Loc) (ls : Array Slot), va_P (xsD X) vwCl (wK X kIsKept kIsStale hiLatest hiSize scBytes scTold scLength scFault scAt scNumber piSegmentsNow enKind enX enY enLower enFromX enFromY enToX enToY tiTouching tiLyingAlong tiMeetingPairs tiAlongPairs tiSize evX evY evLower evBundle evCrossingOf evEventOf evLeftEvent evRightEvent evSize evCrossings evSegmentsNow grDegree grEdges grFar grQueue grQueued huX huY huSize huBestX huBestY S Rw) H → va_D (xsF X) (wK X kIsKept kIsStale hiLatest hiSize scBytes scTold scLength scFault scAt scNumber piSegmentsNow enKind enX enY enLower enFromX enFromY enToX enToY tiTouching tiLyingAlong tiMeetingPairs tiAlongPairs tiSize evX evY evLower evBundle evCrossingOf evEventOf evLeftEvent evRightEvent evSize evCrossings evSegmentsNow grDegree grEdges grFar grQueue grQueued huX huY huSize huBestX huBestY S Rw) → va_S (xsF X) s.heap H locs → lv_has ls 4 [(0, .ref (xsA X (27 + 6 * js))), (1, .int a0), (2, .int sg.1), (3, .int sg.2)] → W p l e { frames := 1, cells := 0, slots := 0, locals := 21 } s m ([.ref (xsA X (27 + 6 * js)), .int a0] : List Value).toArray below meth c H locs 0 0 (MQ below Qq ([.ref (xsA X (27 + 6 * js)), .int a0] : List Value).toArray s 0 0 (xsF X)) (F0 m 4 ls [])) := by
    refine xsWh_ind ?_
    intro sg r3 u3 hf ih3 hx3 hk3 H locs ls hP hD hS hl
    obtain ⟨y1, y2⟩ := sg
    replace hf : fX7_tintsOf_L4 sTi sSz a0 y1 y2 = some u3 := hf
    replace hl : lv_has ls 4 [(0, .ref (xsA X (27 + 6 * js))), (1, .int a0), (2, .int y1), (3, .int y2)] := hl
    replace hP : va_P (xsD X) vwCl (wK X kIsKept kIsStale hiLatest hiSize scBytes scTold scLength scFault scAt scNumber piSegmentsNow enKind enX enY enLower enFromX enFromY enToX enToY tiTouching tiLyingAlong tiMeetingPairs tiAlongPairs tiSize evX evY evLower evBundle evCrossingOf evEventOf evLeftEvent evRightEvent evSize evCrossings evSegmentsNow grDegree grEdges grFar grQueue grQueued huX huY huSize huBestX huBestY S Rw) H := hP
    replace hD : va_D (xsF X) (wK X kIsKept kIsStale hiLatest hiSize scBytes scTold scLength scFault scAt scNumber piSegmentsNow enKind enX enY enLower enFromX enFromY enToX enToY tiTouching tiLyingAlong tiMeetingPairs tiAlongPairs tiSize evX evY evLower evBundle evCrossingOf evEventOf evLeftEvent evRightEvent evSize evCrossings evSegmentsNow grDegree grEdges grFar grQueue grQueued huX huY huSize huBestX huBestY S Rw) := hD
    unfold fX7_tintsOf_L4 at hf
    refine lv_iload_n hx hb dX7_tintsOf_4 rfl (lv_at hl 3 rfl) ?_
    refine lv_aload_n hx hb dX7_tintsOf_5 rfl (lv_at hl 0 rfl) ?_
    refine xg_X7_27 (j := js) hjs hs_s C hP dX7_tintsOf_6 ?_
    refine lv_icmp_ge (tgt := 37) hx hb dX7_tintsOf_9 (by decide) (fun c15 => ?_) (fun c15 => ?_)
    · replace hf := xsBr_t c15 hf
      have ez := hx3 _ (Option.some.inj hf).symm
      subst ez
      exact K3 y1 hk3 H locs ls hP hD hS (lv_sub hl [2] rfl)
    · replace hf := xsBr_f c15 hf
      refine lv_iload_n hx hb dX7_tintsOf_12 rfl (lv_at hl 1 rfl) ?_
      refine lv_iload_n hx hb dX7_tintsOf_13 rfl (lv_at hl 3 rfl) ?_
      replace hf := xsBd_use hf
      obtain ⟨o5, h6, hf⟩ := hf
      refine xs_calli hS (xs_runSN (As := [.int a0, .int y2]) C (mX10_has l  h6) C.2.2.2.2.2.2.2.1.2.2.2.2.2.2 w_605 w_105 w_606 hd_X10_has ⟨rfl, rfl, Nat.le_of_ble_eq_true rfl, Nat.le_of_ble_eq_true rfl, Nat.zero_le _, Nat.zero_le _⟩ hP hD hS hl.1 rfl (Nat.le_of_ble_eq_true rfl) dX7_tintsOf_14) (fun H locs hP hD hS => ?_)
      have K11 : ∀ (y7 : Int32) (hf : fX7_tintsOf_J31 y2 y7 = some u3) (H : Heap) (locs : List Loc) (ls : Array Slot), va_P (xsD X) vwCl (wK X kIsKept kIsStale hiLatest hiSize scBytes scTold scLength scFault scAt scNumber piSegmentsNow enKind enX enY enLower enFromX enFromY enToX enToY tiTouching tiLyingAlong tiMeetingPairs tiAlongPairs tiSize evX evY evLower evBundle evCrossingOf evEventOf evLeftEvent evRightEvent evSize evCrossings evSegmentsNow grDegree grEdges grFar grQueue grQueued huX huY huSize huBestX huBestY S Rw) H → va_D (xsF X) (wK X kIsKept kIsStale hiLatest hiSize scBytes scTold scLength scFault scAt scNumber piSegmentsNow enKind enX enY enLower enFromX enFromY enToX enToY tiTouching tiLyingAlong tiMeetingPairs tiAlongPairs tiSize evX evY evLower evBundle evCrossingOf evEventOf evLeftEvent evRightEvent evSize evCrossings evSegmentsNow grDegree grEdges grFar grQueue grQueued huX huY huSize huBestX huBestY S Rw) → va_S (xsF X) s.heap H locs → lv_has ls 4 [(0, .ref (xsA X (27 + 6 * js))), (1, .int a0), (2, .int y7), (3, .int y2)] → W p l e { frames := 1, cells := 0, slots := 0, locals := 21 } s m ([.ref (xsA X (27 + 6 * js)), .int a0] : List Value).toArray below meth c H locs 0 0 (MQ below Qq ([.ref (xsA X (27 + 6 * js)), .int a0] : List Value).toArray s 0 0 (xsF X)) (F0 m 31 ls []) := by
        intro y7 hf H locs ls hP hD hS hl
        unfold fX7_tintsOf_J31 at hf
        obtain ⟨x8, ex8⟩ : ∃ y : Int32, y = y2 + (1 : Int32) := ⟨_, rfl⟩
        replace hf := xsLt_use ex8 hf
        refine lv_iinc (v := x8) (lv' := [(3, .int x8), (0, .ref (xsA X (27 + 6 * js))), (1, .int a0), (2, .int y7)]) hx hb dX7_tintsOf_31 hl (k := 3) rfl (by rw [ex8]; rfl) (by decide) rfl (fun ls hl => ?_)
        refine lv_goto (tgt := 4) hx hb dX7_tintsOf_34 (by decide) ?_
        exact ih3 _ (Option.some.inj hf).symm hk3 H locs ls hP hD hS (lv_sub hl [1, 2, 3, 0] rfl)
      replace hf := xsBd_use hf
      obtain ⟨v9, hf, hk10⟩ := hf
      refine lv_if_eq (tgt := 31) hx hb dX7_tintsOf_17 (by decide) (fun c14 => ?_) (fun c14 => ?_)
      · replace hf := xsBr_t c14 hf
        have ev := Option.some.inj hf
        subst ev
        exact K11 y1 hk10 H locs ls hP hD hS (lv_sub hl [0, 1, 2, 3] rfl)
      · replace hf := xsBr_f c14 hf
        refine lv_iload_n hx hb dX7_tintsOf_20 rfl (lv_at hl 2 rfl) ?_
        refine lv_iconst (v := (1 : Int32)) hx hb dX7_tintsOf_21 (by decide) ?_
        refine lv_aload_n hx hb dX7_tintsOf_22 rfl (lv_at hl 0 rfl) ?_
        refine xg_X7_24 (j := js) hjs C hP dX7_tintsOf_23 ?_
        refine lv_iload_n hx hb dX7_tintsOf_26 rfl (lv_at hl 3 rfl) ?_
        replace hf := xsCk_use hf
        obtain ⟨h12, hf⟩ := hf
        refine xl_s4 (j := js) hjs hs_s C hP h12 dX7_tintsOf_27 ?_
        refine lv_ishl hx hb dX7_tintsOf_28 ?_
        refine lv_ior hx hb dX7_tintsOf_29 ?_
        refine lv_topi (fun x13 ex13 => ?_)
        replace hf := xsLt_use ex13 hf
        refine lv_istore_n (lv' := [(2, .int x13), (0, .ref (xsA X (27 + 6 * js))), (1, .int a0), (3, .int y2)]) hx hb dX7_tintsOf_30 rfl hl (by decide) rfl (fun ls hl => ?_)
        have ev := Option.some.inj hf
        subst ev
        exact K11 x13 hk10 H locs ls hP hD hS (lv_sub hl [1, 2, 0, 3] rfl)
  exact L3 ((0 : Int32), (0 : Int32)) r3 hk30 hf H locs ls hP hD hS (lv_sub hl [2, 3, 1, 0] rfl)
set_option maxRecDepth 100000 in
set_option maxHeartbeats 8000000 in
theorem mX0_studyAlike (l : Launch) {X : xsX} {kIsKept kIsStale hiLatest hiSize scLength scFault scAt scNumber piSegmentsNow enKind enFromX enFromY enToX enToY tiMeetingPairs tiAlongPairs tiSize evSize evCrossings evSegmentsNow grEdges grQueued huSize huBestX huBestY : Int32} {scBytes scTold tiTouching tiLyingAlong evBundle evCrossingOf evEventOf evLeftEvent evRightEvent grDegree grFar grQueue huX huY : Nat → Int32} {enX enY enLower : Int64} {evX evY evLower : Nat → Int64} {S : Nat → xsV} {Rw : va_W} {js : Nat} (hjs : js < 12) {jo : Nat} (hjo : jo < 12) {sLx sLy sRx sRy sTi : Nat → Int32} {sSz : Int32} (hs_s : S js = (sLx, sLy, sRx, sRy, sTi, sSz)) {oLx oLy oRx oRy oTi : Nat → Int32} {oSz : Int32} (hs_o : S jo = (oLx, oLy, oRx, oRy, oTi, oSz)) {a1 : Int32} {a3 : Int32} {out : Int32 × Int64 × Int64 × Int32 × Int32 × Int32 × Int32} (hf : fX0_studyAlike enKind enX enY enFromX enFromY enToX enToY sLx sLy sRx sRy oLx oLy oRx oRy a1 a3 = some out) : Met l yX0_studyAlike (xsWs yX0_studyAlike cX0_studyAlike 14 none) { frames := 1, cells := 0, slots := 0, locals := 21 } (xsP X (wK X kIsKept kIsStale hiLatest hiSize scBytes scTold scLength scFault scAt scNumber piSegmentsNow enKind enX enY enLower enFromX enFromY enToX enToY tiTouching tiLyingAlong tiMeetingPairs tiAlongPairs tiSize evX evY evLower evBundle evCrossingOf evEventOf evLeftEvent evRightEvent evSize evCrossings evSegmentsNow grDegree grEdges grFar grQueue grQueued huX huY huSize huBestX huBestY S Rw) [.ref (xsA X 7), .ref (xsA X (27 + 6 * js)), .int a1, .ref (xsA X (27 + 6 * jo)), .int a3]) (xsQv X (wK X kIsKept kIsStale hiLatest hiSize scBytes scTold scLength scFault scAt scNumber piSegmentsNow out.1 out.2.1 out.2.2.1 enLower out.2.2.2.1 out.2.2.2.2.1 out.2.2.2.2.2.1 out.2.2.2.2.2.2 tiTouching tiLyingAlong tiMeetingPairs tiAlongPairs tiSize evX evY evLower evBundle evCrossingOf evEventOf evLeftEvent evRightEvent evSize evCrossings evSegmentsNow grDegree grEdges grFar grQueue grQueued huX huY huSize huBestX huBestY S Rw)) 0 0 (xsF X) := by
  refine xs_meth RX0 (by decide) rfl (Nat.le_of_ble_eq_true rfl) ?_
  intro p e s m below meth c ls H locs C hP hD hS hr hlk hl
  have hx := C.1
  have hb := C.2.1
  have hl : lv_has ls 14 [(0, .ref (xsA X 7)), (1, .ref (xsA X (27 + 6 * js))), (2, .int a1), (3, .ref (xsA X (27 + 6 * jo))), (4, .int a3)] := hl
  obtain ⟨Qq, hQq⟩ : ∃ Qq, Qq = xsQv X (wK X kIsKept kIsStale hiLatest hiSize scBytes scTold scLength scFault scAt scNumber piSegmentsNow out.1 out.2.1 out.2.2.1 enLower out.2.2.2.1 out.2.2.2.2.1 out.2.2.2.2.2.1 out.2.2.2.2.2.2 tiTouching tiLyingAlong tiMeetingPairs tiAlongPairs tiSize evX evY evLower evBundle evCrossingOf evEventOf evLeftEvent evRightEvent evSize evCrossings evSegmentsNow grDegree grEdges grFar grQueue grQueued huX huY huSize huBestX huBestY S Rw) := ⟨_, rfl⟩
  rw [← hQq]
  unfold fX0_studyAlike at hf
  refine lv_aload_n hx hb dX0_studyAlike_0 rfl (lv_at hl 3 rfl) ?_
  refine xg_X0_30 (j := jo) hjo C hP dX0_studyAlike_1 ?_
  refine lv_iload hx hb dX0_studyAlike_4 (lv_at hl 4 rfl) ?_
  replace hf := xsCk_use hf
  obtain ⟨h1, hf⟩ := hf
  refine xl_s0 (j := jo) hjo hs_o C hP h1 dX0_studyAlike_6 ?_
  refine lv_aload_n hx hb dX0_studyAlike_7 rfl (lv_at hl 1 rfl) ?_
  refine xg_X0_30 (j := js) hjs C hP dX0_studyAlike_8 ?_
  refine lv_iload_n hx hb dX0_studyAlike_11 rfl (lv_at hl 2 rfl) ?_
  replace hf := xsCk_use hf
  obtain ⟨h2, hf⟩ := hf
  refine xl_s0 (j := js) hjs hs_s C hP h2 dX0_studyAlike_12 ?_
  refine lv_isub hx hb dX0_studyAlike_13 ?_
  refine lv_i2l hx hb dX0_studyAlike_14 rfl ?_
  refine lv_topl (fun x3 ex3 => ?_)
  replace hf := xsLt_use ex3 hf
  refine lv_lstore (lv' := [(5, .long x3), (0, .ref (xsA X 7)), (1, .ref (xsA X (27 + 6 * js))), (2, .int a1), (3, .ref (xsA X (27 + 6 * jo))), (4, .int a3)]) hx hb dX0_studyAlike_15 hl (by decide) rfl (fun ls hl => ?_)
  refine lv_aload_n hx hb dX0_studyAlike_17 rfl (lv_at hl 4 rfl) ?_
  refine xg_X0_34 (j := jo) hjo C hP dX0_studyAlike_18 ?_
  refine lv_iload hx hb dX0_studyAlike_21 (lv_at hl 5 rfl) ?_
  replace hf := xsCk_use hf
  obtain ⟨h4, hf⟩ := hf
  refine xl_s1 (j := jo) hjo hs_o C hP h4 dX0_studyAlike_23 ?_
  refine lv_aload_n hx hb dX0_studyAlike_24 rfl (lv_at hl 2 rfl) ?_
  refine xg_X0_34 (j := js) hjs C hP dX0_studyAlike_25 ?_
  refine lv_iload_n hx hb dX0_studyAlike_28 rfl (lv_at hl 3 rfl) ?_
  replace hf := xsCk_use hf
  obtain ⟨h5, hf⟩ := hf
  refine xl_s1 (j := js) hjs hs_s C hP h5 dX0_studyAlike_29 ?_
  refine lv_isub hx hb dX0_studyAlike_30 ?_
  refine lv_i2l hx hb dX0_studyAlike_31 rfl ?_
  refine lv_topl (fun x6 ex6 => ?_)
  replace hf := xsLt_use ex6 hf
  refine lv_lstore (lv' := [(7, .long x6), (5, .long x3), (0, .ref (xsA X 7)), (1, .ref (xsA X (27 + 6 * js))), (2, .int a1), (3, .ref (xsA X (27 + 6 * jo))), (4, .int a3)]) hx hb dX0_studyAlike_32 hl (by decide) rfl (fun ls hl => ?_)
  refine lv_lload hx hb dX0_studyAlike_34 (lv_at hl 1 rfl) ?_
  refine lv_aload_n hx hb dX0_studyAlike_36 rfl (lv_at hl 3 rfl) ?_
  refine lv_iload_n hx hb dX0_studyAlike_37 rfl (lv_at hl 4 rfl) ?_
  replace hf := xsBd_use hf
  obtain ⟨o7, h8, hf⟩ := hf
  refine xs_calll hS (xs_runV (As := [.int a1]) C (mX7_rise l (js := js) hjs hs_s h8) w_574 w_575 w_576 w_106 w_577 hd_X7_rise ⟨rfl, rfl, Nat.le_of_ble_eq_true rfl, Nat.le_of_ble_eq_true rfl, Nat.zero_le _, Nat.zero_le _⟩ hP hD hS (xs_lkS hjs) rfl hl.1 rfl (Nat.le_of_ble_eq_true rfl) dX0_studyAlike_38) (fun H locs hP hD hS => ?_)
  refine lv_lmul hx hb dX0_studyAlike_41 ?_
  refine lv_lload hx hb dX0_studyAlike_42 (lv_at hl 0 rfl) ?_
  refine lv_aload_n hx hb dX0_studyAlike_44 rfl (lv_at hl 3 rfl) ?_
  refine lv_iload_n hx hb dX0_studyAlike_45 rfl (lv_at hl 4 rfl) ?_
  replace hf := xsBd_use hf
  obtain ⟨o9, h10, hf⟩ := hf
  refine xs_calll hS (xs_runV (As := [.int a1]) C (mX7_width l (js := js) hjs hs_s h10) w_570 w_571 w_572 w_106 w_573 hd_X7_width ⟨rfl, rfl, Nat.le_of_ble_eq_true rfl, Nat.le_of_ble_eq_true rfl, Nat.zero_le _, Nat.zero_le _⟩ hP hD hS (xs_lkS hjs) rfl hl.1 rfl (Nat.le_of_ble_eq_true rfl) dX0_studyAlike_46) (fun H locs hP hD hS => ?_)
  refine lv_lmul hx hb dX0_studyAlike_49 ?_
  have K84 : ∀ (y11 : Int32) (hf : fX0_studyAlike_J81 sLx sLy sRx sRy oLx oLy oRx oRy a1 a3 x3 x6 y11 = some out) (H : Heap) (locs : List Loc) (ls : Array Slot), va_P (xsD X) vwCl (wK X kIsKept kIsStale hiLatest hiSize scBytes scTold scLength scFault scAt scNumber piSegmentsNow enKind enX enY enLower enFromX enFromY enToX enToY tiTouching tiLyingAlong tiMeetingPairs tiAlongPairs tiSize evX evY evLower evBundle evCrossingOf evEventOf evLeftEvent evRightEvent evSize evCrossings evSegmentsNow grDegree grEdges grFar grQueue grQueued huX huY huSize huBestX huBestY S Rw) H → va_D (xsF X) (wK X kIsKept kIsStale hiLatest hiSize scBytes scTold scLength scFault scAt scNumber piSegmentsNow enKind enX enY enLower enFromX enFromY enToX enToY tiTouching tiLyingAlong tiMeetingPairs tiAlongPairs tiSize evX evY evLower evBundle evCrossingOf evEventOf evLeftEvent evRightEvent evSize evCrossings evSegmentsNow grDegree grEdges grFar grQueue grQueued huX huY huSize huBestX huBestY S Rw) → va_S (xsF X) s.heap H locs → lv_has ls 14 [(0, .ref (xsA X 7)), (1, .ref (xsA X (27 + 6 * js))), (2, .int a1), (3, .ref (xsA X (27 + 6 * jo))), (4, .int a3), (5, .long x3), (7, .long x6)] → W p l e { frames := 1, cells := 0, slots := 0, locals := 21 } s m ([.ref (xsA X 7), .ref (xsA X (27 + 6 * js)), .int a1, .ref (xsA X (27 + 6 * jo)), .int a3] : List Value).toArray below meth c H locs 0 0 (MQ below Qq ([.ref (xsA X 7), .ref (xsA X (27 + 6 * js)), .int a1, .ref (xsA X (27 + 6 * jo)), .int a3] : List Value).toArray s 0 0 (xsF X)) (F0 m 81 ls [.int y11]) := by
    intro y11 hf H locs ls hP hD hS hl
    unfold fX0_studyAlike_J81 at hf
    refine lv_istore (lv' := [(9, .int y11), (0, .ref (xsA X 7)), (1, .ref (xsA X (27 + 6 * js))), (2, .int a1), (3, .ref (xsA X (27 + 6 * jo))), (4, .int a3), (5, .long x3), (7, .long x6)]) hx hb dX0_studyAlike_81 hl (by decide) rfl (fun ls hl => ?_)
    refine lv_lload hx hb dX0_studyAlike_83 (lv_at hl 6 rfl) ?_
    refine lv_lconst (v := (0 : Int64)) hx hb dX0_studyAlike_85 (by decide) ?_
    have K78 : ∀ (y12 : Int32) (hf : fX0_studyAlike_J109 sLx sLy sRx sRy oLx oLy oRx oRy a1 a3 y11 y12 = some out) (H : Heap) (locs : List Loc) (ls : Array Slot), va_P (xsD X) vwCl (wK X kIsKept kIsStale hiLatest hiSize scBytes scTold scLength scFault scAt scNumber piSegmentsNow enKind enX enY enLower enFromX enFromY enToX enToY tiTouching tiLyingAlong tiMeetingPairs tiAlongPairs tiSize evX evY evLower evBundle evCrossingOf evEventOf evLeftEvent evRightEvent evSize evCrossings evSegmentsNow grDegree grEdges grFar grQueue grQueued huX huY huSize huBestX huBestY S Rw) H → va_D (xsF X) (wK X kIsKept kIsStale hiLatest hiSize scBytes scTold scLength scFault scAt scNumber piSegmentsNow enKind enX enY enLower enFromX enFromY enToX enToY tiTouching tiLyingAlong tiMeetingPairs tiAlongPairs tiSize evX evY evLower evBundle evCrossingOf evEventOf evLeftEvent evRightEvent evSize evCrossings evSegmentsNow grDegree grEdges grFar grQueue grQueued huX huY huSize huBestX huBestY S Rw) → va_S (xsF X) s.heap H locs → lv_has ls 14 [(0, .ref (xsA X 7)), (1, .ref (xsA X (27 + 6 * js))), (2, .int a1), (3, .ref (xsA X (27 + 6 * jo))), (4, .int a3), (9, .int y11)] → W p l e { frames := 1, cells := 0, slots := 0, locals := 21 } s m ([.ref (xsA X 7), .ref (xsA X (27 + 6 * js)), .int a1, .ref (xsA X (27 + 6 * jo)), .int a3] : List Value).toArray below meth c H locs 0 0 (MQ below Qq ([.ref (xsA X 7), .ref (xsA X (27 + 6 * js)), .int a1, .ref (xsA X (27 + 6 * jo)), .int a3] : List Value).toArray s 0 0 (xsF X)) (F0 m 109 ls [.int y12]) := by
      intro y12 hf H locs ls hP hD hS hl
      unfold fX0_studyAlike_J109 at hf
      refine lv_istore (lv' := [(10, .int y12), (0, .ref (xsA X 7)), (1, .ref (xsA X (27 + 6 * js))), (2, .int a1), (3, .ref (xsA X (27 + 6 * jo))), (4, .int a3), (9, .int y11)]) hx hb dX0_studyAlike_109 hl (by decide) rfl (fun ls hl => ?_)
      refine lv_aload_n hx hb dX0_studyAlike_111 rfl (lv_at hl 1 rfl) ?_
      refine lv_iload hx hb dX0_studyAlike_112 (lv_at hl 0 rfl) ?_
      have K72 : ∀ (y13 : Int32) (hf : fX0_studyAlike_J133 sLy sRx sRy oLy oRx oRy a1 a3 y11 y12 y13 = some out) (H : Heap) (locs : List Loc) (ls : Array Slot), va_P (xsD X) vwCl (wK X kIsKept kIsStale hiLatest hiSize scBytes scTold scLength scFault scAt scNumber piSegmentsNow enKind enX enY enLower enFromX enFromY enToX enToY tiTouching tiLyingAlong tiMeetingPairs tiAlongPairs tiSize evX evY evLower evBundle evCrossingOf evEventOf evLeftEvent evRightEvent evSize evCrossings evSegmentsNow grDegree grEdges grFar grQueue grQueued huX huY huSize huBestX huBestY S Rw) H → va_D (xsF X) (wK X kIsKept kIsStale hiLatest hiSize scBytes scTold scLength scFault scAt scNumber piSegmentsNow enKind enX enY enLower enFromX enFromY enToX enToY tiTouching tiLyingAlong tiMeetingPairs tiAlongPairs tiSize evX evY evLower evBundle evCrossingOf evEventOf evLeftEvent evRightEvent evSize evCrossings evSegmentsNow grDegree grEdges grFar grQueue grQueued huX huY huSize huBestX huBestY S Rw) → va_S (xsF X) s.heap H locs → lv_has ls 14 [(0, .ref (xsA X 7)), (1, .ref (xsA X (27 + 6 * js))), (2, .int a1), (3, .ref (xsA X (27 + 6 * jo))), (4, .int a3), (9, .int y11), (10, .int y12)] → W p l e { frames := 1, cells := 0, slots := 0, locals := 21 } s m ([.ref (xsA X 7), .ref (xsA X (27 + 6 * js)), .int a1, .ref (xsA X (27 + 6 * jo)), .int a3] : List Value).toArray below meth c H locs 0 0 (MQ below Qq ([.ref (xsA X 7), .ref (xsA X (27 + 6 * js)), .int a1, .ref (xsA X (27 + 6 * jo)), .int a3] : List Value).toArray s 0 0 (xsF X)) (F0 m 133 ls [.int y13, .ref (xsA X 7)]) := by
        intro y13 hf H locs ls hP hD hS hl
        unfold fX0_studyAlike_J133 at hf
        refine xp_X0_43 C hP hD hS dX0_studyAlike_133 (fun H locs hP hD hS => ?_)
        refine lv_aload_n hx hb dX0_studyAlike_136 rfl (lv_at hl 0 rfl) ?_
        refine lv_iload hx hb dX0_studyAlike_137 (lv_at hl 6 rfl) ?_
        have K66 : ∀ (y14 : Int32) (hf : fX0_studyAlike_J158 sRx sRy oRx oRy a1 a3 y11 y13 y14 = some out) (H : Heap) (locs : List Loc) (ls : Array Slot), va_P (xsD X) vwCl (wK X kIsKept kIsStale hiLatest hiSize scBytes scTold scLength scFault scAt scNumber piSegmentsNow enKind enX enY enLower y13 enFromY enToX enToY tiTouching tiLyingAlong tiMeetingPairs tiAlongPairs tiSize evX evY evLower evBundle evCrossingOf evEventOf evLeftEvent evRightEvent evSize evCrossings evSegmentsNow grDegree grEdges grFar grQueue grQueued huX huY huSize huBestX huBestY S Rw) H → va_D (xsF X) (wK X kIsKept kIsStale hiLatest hiSize scBytes scTold scLength scFault scAt scNumber piSegmentsNow enKind enX enY enLower y13 enFromY enToX enToY tiTouching tiLyingAlong tiMeetingPairs tiAlongPairs tiSize evX evY evLower evBundle evCrossingOf evEventOf evLeftEvent evRightEvent evSize evCrossings evSegmentsNow grDegree grEdges grFar grQueue grQueued huX huY huSize huBestX huBestY S Rw) → va_S (xsF X) s.heap H locs → lv_has ls 14 [(0, .ref (xsA X 7)), (1, .ref (xsA X (27 + 6 * js))), (2, .int a1), (3, .ref (xsA X (27 + 6 * jo))), (4, .int a3), (9, .int y11)] → W p l e { frames := 1, cells := 0, slots := 0, locals := 21 } s m ([.ref (xsA X 7), .ref (xsA X (27 + 6 * js)), .int a1, .ref (xsA X (27 + 6 * jo)), .int a3] : List Value).toArray below meth c H locs 0 0 (MQ below Qq ([.ref (xsA X 7), .ref (xsA X (27 + 6 * js)), .int a1, .ref (xsA X (27 + 6 * jo)), .int a3] : List Value).toArray s 0 0 (xsF X)) (F0 m 158 ls [.int y14, .ref (xsA X 7)]) := by
          intro y14 hf H locs ls hP hD hS hl
          unfold fX0_studyAlike_J158 at hf
          refine xp_X0_46 C hP hD hS dX0_studyAlike_158 (fun H locs hP hD hS => ?_)
          refine lv_aload_n hx hb dX0_studyAlike_161 rfl (lv_at hl 3 rfl) ?_
          refine xg_X0_49 (j := jo) hjo C hP dX0_studyAlike_162 ?_
          refine lv_iload hx hb dX0_studyAlike_165 (lv_at hl 4 rfl) ?_
          replace hf := xsCk_use hf
          obtain ⟨h15, hf⟩ := hf
          refine xl_s2 (j := jo) hjo hs_o C hP h15 dX0_studyAlike_167 ?_
          refine lv_aload_n hx hb dX0_studyAlike_168 rfl (lv_at hl 1 rfl) ?_
          refine xg_X0_49 (j := js) hjs C hP dX0_studyAlike_169 ?_
          refine lv_iload_n hx hb dX0_studyAlike_172 rfl (lv_at hl 2 rfl) ?_
          replace hf := xsCk_use hf
          obtain ⟨h16, hf⟩ := hf
          refine xl_s2 (j := js) hjs hs_s C hP h16 dX0_studyAlike_173 ?_
          have K56 : ∀ (y17 : Int32) (hf : fX0_studyAlike_J214 sRx sRy oRx oRy a1 a3 y11 y13 y14 y17 = some out) (H : Heap) (locs : List Loc) (ls : Array Slot), va_P (xsD X) vwCl (wK X kIsKept kIsStale hiLatest hiSize scBytes scTold scLength scFault scAt scNumber piSegmentsNow enKind enX enY enLower y13 y14 enToX enToY tiTouching tiLyingAlong tiMeetingPairs tiAlongPairs tiSize evX evY evLower evBundle evCrossingOf evEventOf evLeftEvent evRightEvent evSize evCrossings evSegmentsNow grDegree grEdges grFar grQueue grQueued huX huY huSize huBestX huBestY S Rw) H → va_D (xsF X) (wK X kIsKept kIsStale hiLatest hiSize scBytes scTold scLength scFault scAt scNumber piSegmentsNow enKind enX enY enLower y13 y14 enToX enToY tiTouching tiLyingAlong tiMeetingPairs tiAlongPairs tiSize evX evY evLower evBundle evCrossingOf evEventOf evLeftEvent evRightEvent evSize evCrossings evSegmentsNow grDegree grEdges grFar grQueue grQueued huX huY huSize huBestX huBestY S Rw) → va_S (xsF X) s.heap H locs → lv_has ls 14 [(0, .ref (xsA X 7)), (1, .ref (xsA X (27 + 6 * js))), (2, .int a1), (3, .ref (xsA X (27 + 6 * jo))), (4, .int a3), (9, .int y11)] → W p l e { frames := 1, cells := 0, slots := 0, locals := 21 } s m ([.ref (xsA X 7), .ref (xsA X (27 + 6 * js)), .int a1, .ref (xsA X (27 + 6 * jo)), .int a3] : List Value).toArray below meth c H locs 0 0 (MQ below Qq ([.ref (xsA X 7), .ref (xsA X (27 + 6 * js)), .int a1, .ref (xsA X (27 + 6 * jo)), .int a3] : List Value).toArray s 0 0 (xsF X)) (F0 m 214 ls [.int y17]) := by
            intro y17 hf H locs ls hP hD hS hl
            unfold fX0_studyAlike_J214 at hf
            refine lv_istore (lv' := [(11, .int y17), (0, .ref (xsA X 7)), (1, .ref (xsA X (27 + 6 * js))), (2, .int a1), (3, .ref (xsA X (27 + 6 * jo))), (4, .int a3), (9, .int y11)]) hx hb dX0_studyAlike_214 hl (by decide) rfl (fun ls hl => ?_)
            refine lv_aload_n hx hb dX0_studyAlike_216 rfl (lv_at hl 1 rfl) ?_
            refine lv_iload hx hb dX0_studyAlike_217 (lv_at hl 0 rfl) ?_
            have K50 : ∀ (y18 : Int32) (hf : fX0_studyAlike_J238 sRy oRy a1 a3 y11 y13 y14 y17 y18 = some out) (H : Heap) (locs : List Loc) (ls : Array Slot), va_P (xsD X) vwCl (wK X kIsKept kIsStale hiLatest hiSize scBytes scTold scLength scFault scAt scNumber piSegmentsNow enKind enX enY enLower y13 y14 enToX enToY tiTouching tiLyingAlong tiMeetingPairs tiAlongPairs tiSize evX evY evLower evBundle evCrossingOf evEventOf evLeftEvent evRightEvent evSize evCrossings evSegmentsNow grDegree grEdges grFar grQueue grQueued huX huY huSize huBestX huBestY S Rw) H → va_D (xsF X) (wK X kIsKept kIsStale hiLatest hiSize scBytes scTold scLength scFault scAt scNumber piSegmentsNow enKind enX enY enLower y13 y14 enToX enToY tiTouching tiLyingAlong tiMeetingPairs tiAlongPairs tiSize evX evY evLower evBundle evCrossingOf evEventOf evLeftEvent evRightEvent evSize evCrossings evSegmentsNow grDegree grEdges grFar grQueue grQueued huX huY huSize huBestX huBestY S Rw) → va_S (xsF X) s.heap H locs → lv_has ls 14 [(0, .ref (xsA X 7)), (1, .ref (xsA X (27 + 6 * js))), (2, .int a1), (3, .ref (xsA X (27 + 6 * jo))), (4, .int a3), (9, .int y11), (11, .int y17)] → W p l e { frames := 1, cells := 0, slots := 0, locals := 21 } s m ([.ref (xsA X 7), .ref (xsA X (27 + 6 * js)), .int a1, .ref (xsA X (27 + 6 * jo)), .int a3] : List Value).toArray below meth c H locs 0 0 (MQ below Qq ([.ref (xsA X 7), .ref (xsA X (27 + 6 * js)), .int a1, .ref (xsA X (27 + 6 * jo)), .int a3] : List Value).toArray s 0 0 (xsF X)) (F0 m 238 ls [.int y18, .ref (xsA X 7)]) := by
              intro y18 hf H locs ls hP hD hS hl
              unfold fX0_studyAlike_J238 at hf
              refine xp_X0_55 C hP hD hS dX0_studyAlike_238 (fun H locs hP hD hS => ?_)
              refine lv_aload_n hx hb dX0_studyAlike_241 rfl (lv_at hl 0 rfl) ?_
              refine lv_iload hx hb dX0_studyAlike_242 (lv_at hl 6 rfl) ?_
              have K44 : ∀ (y19 : Int32) (hf : fX0_studyAlike_J263 y11 y13 y14 y18 y19 = some out) (H : Heap) (locs : List Loc) (ls : Array Slot), va_P (xsD X) vwCl (wK X kIsKept kIsStale hiLatest hiSize scBytes scTold scLength scFault scAt scNumber piSegmentsNow enKind enX enY enLower y13 y14 y18 enToY tiTouching tiLyingAlong tiMeetingPairs tiAlongPairs tiSize evX evY evLower evBundle evCrossingOf evEventOf evLeftEvent evRightEvent evSize evCrossings evSegmentsNow grDegree grEdges grFar grQueue grQueued huX huY huSize huBestX huBestY S Rw) H → va_D (xsF X) (wK X kIsKept kIsStale hiLatest hiSize scBytes scTold scLength scFault scAt scNumber piSegmentsNow enKind enX enY enLower y13 y14 y18 enToY tiTouching tiLyingAlong tiMeetingPairs tiAlongPairs tiSize evX evY evLower evBundle evCrossingOf evEventOf evLeftEvent evRightEvent evSize evCrossings evSegmentsNow grDegree grEdges grFar grQueue grQueued huX huY huSize huBestX huBestY S Rw) → va_S (xsF X) s.heap H locs → lv_has ls 14 [(0, .ref (xsA X 7)), (9, .int y11)] → W p l e { frames := 1, cells := 0, slots := 0, locals := 21 } s m ([.ref (xsA X 7), .ref (xsA X (27 + 6 * js)), .int a1, .ref (xsA X (27 + 6 * jo)), .int a3] : List Value).toArray below meth c H locs 0 0 (MQ below Qq ([.ref (xsA X 7), .ref (xsA X (27 + 6 * js)), .int a1, .ref (xsA X (27 + 6 * jo)), .int a3] : List Value).toArray s 0 0 (xsF X)) (F0 m 263 ls [.int y19, .ref (xsA X 7)]) := by
                intro y19 hf H locs ls hP hD hS hl
                unfold fX0_studyAlike_J263 at hf
                refine xp_X0_58 C hP hD hS dX0_studyAlike_263 (fun H locs hP hD hS => ?_)
                refine lv_aload_n hx hb dX0_studyAlike_266 rfl (lv_at hl 0 rfl) ?_
                refine lv_aload_n hx hb dX0_studyAlike_267 rfl (lv_at hl 0 rfl) ?_
                refine xg_X0_43 C hP dX0_studyAlike_268 ?_
                refine lv_i2l hx hb dX0_studyAlike_271 rfl ?_
                refine xp_X0_37 C hP hD hS dX0_studyAlike_272 (fun H locs hP hD hS => ?_)
                refine lv_aload_n hx hb dX0_studyAlike_275 rfl (lv_at hl 0 rfl) ?_
                refine lv_aload_n hx hb dX0_studyAlike_276 rfl (lv_at hl 0 rfl) ?_
                refine xg_X0_46 C hP dX0_studyAlike_277 ?_
                refine lv_i2l hx hb dX0_studyAlike_280 rfl ?_
                refine xp_X0_40 C hP hD hS dX0_studyAlike_281 (fun H locs hP hD hS => ?_)
                refine lv_aload_n hx hb dX0_studyAlike_284 rfl (lv_at hl 0 rfl) ?_
                refine xg_X0_43 C hP dX0_studyAlike_285 ?_
                refine lv_aload_n hx hb dX0_studyAlike_288 rfl (lv_at hl 0 rfl) ?_
                refine xg_X0_55 C hP dX0_studyAlike_289 ?_
                have K39 : ∀ (y20 : Int32) (hf : fX0_studyAlike_J311 y11 y13 y14 y18 y19 y20 = some out) (H : Heap) (locs : List Loc) (ls : Array Slot), va_P (xsD X) vwCl (wK X kIsKept kIsStale hiLatest hiSize scBytes scTold scLength scFault scAt scNumber piSegmentsNow enKind y13.toInt64 y14.toInt64 enLower y13 y14 y18 y19 tiTouching tiLyingAlong tiMeetingPairs tiAlongPairs tiSize evX evY evLower evBundle evCrossingOf evEventOf evLeftEvent evRightEvent evSize evCrossings evSegmentsNow grDegree grEdges grFar grQueue grQueued huX huY huSize huBestX huBestY S Rw) H → va_D (xsF X) (wK X kIsKept kIsStale hiLatest hiSize scBytes scTold scLength scFault scAt scNumber piSegmentsNow enKind y13.toInt64 y14.toInt64 enLower y13 y14 y18 y19 tiTouching tiLyingAlong tiMeetingPairs tiAlongPairs tiSize evX evY evLower evBundle evCrossingOf evEventOf evLeftEvent evRightEvent evSize evCrossings evSegmentsNow grDegree grEdges grFar grQueue grQueued huX huY huSize huBestX huBestY S Rw) → va_S (xsF X) s.heap H locs → lv_has ls 14 [(0, .ref (xsA X 7)), (9, .int y11)] → W p l e { frames := 1, cells := 0, slots := 0, locals := 21 } s m ([.ref (xsA X 7), .ref (xsA X (27 + 6 * js)), .int a1, .ref (xsA X (27 + 6 * jo)), .int a3] : List Value).toArray below meth c H locs 0 0 (MQ below Qq ([.ref (xsA X 7), .ref (xsA X (27 + 6 * js)), .int a1, .ref (xsA X (27 + 6 * jo)), .int a3] : List Value).toArray s 0 0 (xsF X)) (F0 m 311 ls [.int y20]) := by
                  intro y20 hf H locs ls hP hD hS hl
                  unfold fX0_studyAlike_J311 at hf
                  refine lv_istore (lv' := [(12, .int y20), (0, .ref (xsA X 7)), (9, .int y11)]) hx hb dX0_studyAlike_311 hl (by decide) rfl (fun ls hl => ?_)
                  refine lv_aload_n hx hb dX0_studyAlike_313 rfl (lv_at hl 1 rfl) ?_
                  refine xg_X0_43 C hP dX0_studyAlike_314 ?_
                  refine lv_aload_n hx hb dX0_studyAlike_317 rfl (lv_at hl 1 rfl) ?_
                  refine xg_X0_55 C hP dX0_studyAlike_318 ?_
                  have K33 : ∀ (y21 : Int32) (hf : fX0_studyAlike_J351 y11 y13 y14 y18 y19 y20 y21 = some out) (H : Heap) (locs : List Loc) (ls : Array Slot), va_P (xsD X) vwCl (wK X kIsKept kIsStale hiLatest hiSize scBytes scTold scLength scFault scAt scNumber piSegmentsNow enKind y13.toInt64 y14.toInt64 enLower y13 y14 y18 y19 tiTouching tiLyingAlong tiMeetingPairs tiAlongPairs tiSize evX evY evLower evBundle evCrossingOf evEventOf evLeftEvent evRightEvent evSize evCrossings evSegmentsNow grDegree grEdges grFar grQueue grQueued huX huY huSize huBestX huBestY S Rw) H → va_D (xsF X) (wK X kIsKept kIsStale hiLatest hiSize scBytes scTold scLength scFault scAt scNumber piSegmentsNow enKind y13.toInt64 y14.toInt64 enLower y13 y14 y18 y19 tiTouching tiLyingAlong tiMeetingPairs tiAlongPairs tiSize evX evY evLower evBundle evCrossingOf evEventOf evLeftEvent evRightEvent evSize evCrossings evSegmentsNow grDegree grEdges grFar grQueue grQueued huX huY huSize huBestX huBestY S Rw) → va_S (xsF X) s.heap H locs → lv_has ls 14 [(0, .ref (xsA X 7)), (9, .int y11), (12, .int y20)] → W p l e { frames := 1, cells := 0, slots := 0, locals := 21 } s m ([.ref (xsA X 7), .ref (xsA X (27 + 6 * js)), .int a1, .ref (xsA X (27 + 6 * jo)), .int a3] : List Value).toArray below meth c H locs 0 0 (MQ below Qq ([.ref (xsA X 7), .ref (xsA X (27 + 6 * js)), .int a1, .ref (xsA X (27 + 6 * jo)), .int a3] : List Value).toArray s 0 0 (xsF X)) (F0 m 351 ls [.int y21]) := by
                    intro y21 hf H locs ls hP hD hS hl
                    unfold fX0_studyAlike_J351 at hf
                    refine lv_istore (lv' := [(13, .int y21), (0, .ref (xsA X 7)), (9, .int y11), (12, .int y20)]) hx hb dX0_studyAlike_351 hl (by decide) rfl (fun ls hl => ?_)
                    refine lv_iload hx hb dX0_studyAlike_353 (lv_at hl 2 rfl) ?_
                    have K28 : ∀ (hf : fX0_studyAlike_J371 y11 y13 y14 y18 y19 y21 = some out) (H : Heap) (locs : List Loc) (ls : Array Slot), va_P (xsD X) vwCl (wK X kIsKept kIsStale hiLatest hiSize scBytes scTold scLength scFault scAt scNumber piSegmentsNow enKind y13.toInt64 y14.toInt64 enLower y13 y14 y18 y19 tiTouching tiLyingAlong tiMeetingPairs tiAlongPairs tiSize evX evY evLower evBundle evCrossingOf evEventOf evLeftEvent evRightEvent evSize evCrossings evSegmentsNow grDegree grEdges grFar grQueue grQueued huX huY huSize huBestX huBestY S Rw) H → va_D (xsF X) (wK X kIsKept kIsStale hiLatest hiSize scBytes scTold scLength scFault scAt scNumber piSegmentsNow enKind y13.toInt64 y14.toInt64 enLower y13 y14 y18 y19 tiTouching tiLyingAlong tiMeetingPairs tiAlongPairs tiSize evX evY evLower evBundle evCrossingOf evEventOf evLeftEvent evRightEvent evSize evCrossings evSegmentsNow grDegree grEdges grFar grQueue grQueued huX huY huSize huBestX huBestY S Rw) → va_S (xsF X) s.heap H locs → lv_has ls 14 [(0, .ref (xsA X 7)), (9, .int y11), (13, .int y21)] → W p l e { frames := 1, cells := 0, slots := 0, locals := 21 } s m ([.ref (xsA X 7), .ref (xsA X (27 + 6 * js)), .int a1, .ref (xsA X (27 + 6 * jo)), .int a3] : List Value).toArray below meth c H locs 0 0 (MQ below Qq ([.ref (xsA X 7), .ref (xsA X (27 + 6 * js)), .int a1, .ref (xsA X (27 + 6 * jo)), .int a3] : List Value).toArray s 0 0 (xsF X)) (F0 m 371 ls []) := by
                      intro hf H locs ls hP hD hS hl
                      unfold fX0_studyAlike_J371 at hf
                      refine lv_aload_n hx hb dX0_studyAlike_371 rfl (lv_at hl 0 rfl) ?_
                      refine lv_iload hx hb dX0_studyAlike_372 (lv_at hl 1 rfl) ?_
                      have K25 : ∀ (y22 : Int32) (hf : fX0_studyAlike_J387 y13 y14 y18 y19 y22 = some out) (H : Heap) (locs : List Loc) (ls : Array Slot), va_P (xsD X) vwCl (wK X kIsKept kIsStale hiLatest hiSize scBytes scTold scLength scFault scAt scNumber piSegmentsNow enKind y13.toInt64 y14.toInt64 enLower y13 y14 y18 y19 tiTouching tiLyingAlong tiMeetingPairs tiAlongPairs tiSize evX evY evLower evBundle evCrossingOf evEventOf evLeftEvent evRightEvent evSize evCrossings evSegmentsNow grDegree grEdges grFar grQueue grQueued huX huY huSize huBestX huBestY S Rw) H → va_D (xsF X) (wK X kIsKept kIsStale hiLatest hiSize scBytes scTold scLength scFault scAt scNumber piSegmentsNow enKind y13.toInt64 y14.toInt64 enLower y13 y14 y18 y19 tiTouching tiLyingAlong tiMeetingPairs tiAlongPairs tiSize evX evY evLower evBundle evCrossingOf evEventOf evLeftEvent evRightEvent evSize evCrossings evSegmentsNow grDegree grEdges grFar grQueue grQueued huX huY huSize huBestX huBestY S Rw) → va_S (xsF X) s.heap H locs → lv_has ls 14 [] → W p l e { frames := 1, cells := 0, slots := 0, locals := 21 } s m ([.ref (xsA X 7), .ref (xsA X (27 + 6 * js)), .int a1, .ref (xsA X (27 + 6 * jo)), .int a3] : List Value).toArray below meth c H locs 0 0 (MQ below Qq ([.ref (xsA X 7), .ref (xsA X (27 + 6 * js)), .int a1, .ref (xsA X (27 + 6 * jo)), .int a3] : List Value).toArray s 0 0 (xsF X)) (F0 m 387 ls [.int y22, .ref (xsA X 7)]) := by
                        intro y22 hf H locs ls hP hD hS hl
                        unfold fX0_studyAlike_J387 at hf
                        refine xp_X0_9 C hP hD hS dX0_studyAlike_387 (fun H locs hP hD hS => ?_)
                        have ho := Option.some.inj hf
                        subst ho
                        rw [hQq]
                        exact xs_vret C hr hlk hP hD hS dX0_studyAlike_390
                      replace hf := xsBd_use hf
                      obtain ⟨v23, hf, hk24⟩ := hf
                      refine lv_if_eq (tgt := 386) hx hb dX0_studyAlike_374 (by decide) (fun c27 => ?_) (fun c27 => ?_)
                      · replace hf := xsBr_t c27 hf
                        refine lv_iconst (v := (0 : Int32)) hx hb dX0_studyAlike_386 (by decide) ?_
                        have ev := Option.some.inj hf
                        subst ev
                        exact K25 (0 : Int32) hk24 H locs ls hP hD hS (lv_sub hl [] rfl)
                      · replace hf := xsBr_f c27 hf
                        refine lv_iload hx hb dX0_studyAlike_377 (lv_at hl 2 rfl) ?_
                        refine lv_if_eq (tgt := 386) hx hb dX0_studyAlike_379 (by decide) (fun c26 => ?_) (fun c26 => ?_)
                        · replace hf := xsBr_t c26 hf
                          refine lv_iconst (v := (0 : Int32)) hx hb dX0_studyAlike_386 (by decide) ?_
                          have ev := Option.some.inj hf
                          subst ev
                          exact K25 (0 : Int32) hk24 H locs ls hP hD hS (lv_sub hl [] rfl)
                        · replace hf := xsBr_f c26 hf
                          refine lv_iconst (v := (2 : Int32)) hx hb dX0_studyAlike_382 (by decide) ?_
                          refine lv_goto (tgt := 387) hx hb dX0_studyAlike_383 (by decide) ?_
                          have ev := Option.some.inj hf
                          subst ev
                          exact K25 (2 : Int32) hk24 H locs ls hP hD hS (lv_sub hl [] rfl)
                    refine lv_if_eq (tgt := 371) hx hb dX0_studyAlike_355 (by decide) (fun c30 => ?_) (fun c30 => ?_)
                    · replace hf := xsBr_t c30 hf
                      exact K28 hf H locs ls hP hD hS (lv_sub hl [1, 2, 0] rfl)
                    · replace hf := xsBr_f c30 hf
                      refine lv_iload hx hb dX0_studyAlike_358 (lv_at hl 3 rfl) ?_
                      refine lv_if_eq (tgt := 371) hx hb dX0_studyAlike_360 (by decide) (fun c29 => ?_) (fun c29 => ?_)
                      · replace hf := xsBr_t c29 hf
                        exact K28 hf H locs ls hP hD hS (lv_sub hl [1, 2, 0] rfl)
                      · replace hf := xsBr_f c29 hf
                        refine lv_aload_n hx hb dX0_studyAlike_363 rfl (lv_at hl 1 rfl) ?_
                        refine lv_iconst (v := (1 : Int32)) hx hb dX0_studyAlike_364 (by decide) ?_
                        refine xp_X0_9 C hP hD hS dX0_studyAlike_365 (fun H locs hP hD hS => ?_)
                        refine lv_goto (tgt := 390) hx hb dX0_studyAlike_368 (by decide) ?_
                        have ho := Option.some.inj hf
                        subst ho
                        rw [hQq]
                        exact xs_vret C hr hlk hP hD hS dX0_studyAlike_390
                  replace hf := xsBd_use hf
                  obtain ⟨v31, hf, hk32⟩ := hf
                  refine lv_icmp_lt (tgt := 346) hx hb dX0_studyAlike_321 (by decide) (fun c36 => ?_) (fun c36 => ?_)
                  · replace hf := xsBr_t c36 hf
                    refine lv_iconst (v := (1 : Int32)) hx hb dX0_studyAlike_346 (by decide) ?_
                    refine lv_goto (tgt := 351) hx hb dX0_studyAlike_347 (by decide) ?_
                    have ev := Option.some.inj hf
                    subst ev
                    exact K33 (1 : Int32) hk32 H locs ls hP hD hS (lv_sub hl [1, 2, 0] rfl)
                  · replace hf := xsBr_f c36 hf
                    refine lv_aload_n hx hb dX0_studyAlike_324 rfl (lv_at hl 1 rfl) ?_
                    refine xg_X0_43 C hP dX0_studyAlike_325 ?_
                    refine lv_aload_n hx hb dX0_studyAlike_328 rfl (lv_at hl 1 rfl) ?_
                    refine xg_X0_55 C hP dX0_studyAlike_329 ?_
                    refine lv_icmp_ne (tgt := 350) hx hb dX0_studyAlike_332 (by decide) (fun c35 => ?_) (fun c35 => ?_)
                    · replace hf := xsBr_f c35 hf
                      refine lv_iconst (v := (0 : Int32)) hx hb dX0_studyAlike_350 (by decide) ?_
                      have ev := Option.some.inj hf
                      subst ev
                      exact K33 (0 : Int32) hk32 H locs ls hP hD hS (lv_sub hl [1, 2, 0] rfl)
                    · replace hf := xsBr_t c35 hf
                      refine lv_aload_n hx hb dX0_studyAlike_335 rfl (lv_at hl 1 rfl) ?_
                      refine xg_X0_46 C hP dX0_studyAlike_336 ?_
                      refine lv_aload_n hx hb dX0_studyAlike_339 rfl (lv_at hl 1 rfl) ?_
                      refine xg_X0_58 C hP dX0_studyAlike_340 ?_
                      refine lv_icmp_ge (tgt := 350) hx hb dX0_studyAlike_343 (by decide) (fun c34 => ?_) (fun c34 => ?_)
                      · replace hf := xsBr_t c34 hf
                        refine lv_iconst (v := (0 : Int32)) hx hb dX0_studyAlike_350 (by decide) ?_
                        have ev := Option.some.inj hf
                        subst ev
                        exact K33 (0 : Int32) hk32 H locs ls hP hD hS (lv_sub hl [1, 2, 0] rfl)
                      · replace hf := xsBr_f c34 hf
                        refine lv_iconst (v := (1 : Int32)) hx hb dX0_studyAlike_346 (by decide) ?_
                        refine lv_goto (tgt := 351) hx hb dX0_studyAlike_347 (by decide) ?_
                        have ev := Option.some.inj hf
                        subst ev
                        exact K33 (1 : Int32) hk32 H locs ls hP hD hS (lv_sub hl [1, 2, 0] rfl)
                replace hf := xsBd_use hf
                obtain ⟨v37, hf, hk38⟩ := hf
                refine lv_icmp_ne (tgt := 310) hx hb dX0_studyAlike_292 (by decide) (fun c41 => ?_) (fun c41 => ?_)
                · replace hf := xsBr_f c41 hf
                  refine lv_iconst (v := (0 : Int32)) hx hb dX0_studyAlike_310 (by decide) ?_
                  have ev := Option.some.inj hf
                  subst ev
                  exact K39 (0 : Int32) hk38 H locs ls hP hD hS (lv_sub hl [0, 1] rfl)
                · replace hf := xsBr_t c41 hf
                  refine lv_aload_n hx hb dX0_studyAlike_295 rfl (lv_at hl 0 rfl) ?_
                  refine xg_X0_46 C hP dX0_studyAlike_296 ?_
                  refine lv_aload_n hx hb dX0_studyAlike_299 rfl (lv_at hl 0 rfl) ?_
                  refine xg_X0_58 C hP dX0_studyAlike_300 ?_
                  refine lv_icmp_ne (tgt := 310) hx hb dX0_studyAlike_303 (by decide) (fun c40 => ?_) (fun c40 => ?_)
                  · replace hf := xsBr_f c40 hf
                    refine lv_iconst (v := (0 : Int32)) hx hb dX0_studyAlike_310 (by decide) ?_
                    have ev := Option.some.inj hf
                    subst ev
                    exact K39 (0 : Int32) hk38 H locs ls hP hD hS (lv_sub hl [0, 1] rfl)
                  · replace hf := xsBr_t c40 hf
                    refine lv_iconst (v := (1 : Int32)) hx hb dX0_studyAlike_306 (by decide) ?_
                    refine lv_goto (tgt := 311) hx hb dX0_studyAlike_307 (by decide) ?_
                    have ev := Option.some.inj hf
                    subst ev
                    exact K39 (1 : Int32) hk38 H locs ls hP hD hS (lv_sub hl [0, 1] rfl)
              replace hf := xsBd_use hf
              obtain ⟨v42, hf, hk43⟩ := hf
              refine lv_if_eq (tgt := 257) hx hb dX0_studyAlike_244 (by decide) (fun c47 => ?_) (fun c47 => ?_)
              · replace hf := xsBr_t c47 hf
                refine lv_aload_n hx hb dX0_studyAlike_257 rfl (lv_at hl 1 rfl) ?_
                refine xg_X0_52 (j := js) hjs C hP dX0_studyAlike_258 ?_
                refine lv_iload_n hx hb dX0_studyAlike_261 rfl (lv_at hl 2 rfl) ?_
                replace hf := xsCk_use hf
                obtain ⟨h45, hf⟩ := hf
                refine xl_s3 (j := js) hjs hs_s C hP h45 dX0_studyAlike_262 ?_
                have ev := Option.some.inj hf
                subst ev
                exact K44 (sRy a1.toNatClampNeg) hk43 H locs ls hP hD hS (lv_sub hl [0, 5] rfl)
              · replace hf := xsBr_f c47 hf
                refine lv_aload_n hx hb dX0_studyAlike_247 rfl (lv_at hl 3 rfl) ?_
                refine xg_X0_52 (j := jo) hjo C hP dX0_studyAlike_248 ?_
                refine lv_iload hx hb dX0_studyAlike_251 (lv_at hl 4 rfl) ?_
                replace hf := xsCk_use hf
                obtain ⟨h46, hf⟩ := hf
                refine xl_s3 (j := jo) hjo hs_o C hP h46 dX0_studyAlike_253 ?_
                refine lv_goto (tgt := 263) hx hb dX0_studyAlike_254 (by decide) ?_
                have ev := Option.some.inj hf
                subst ev
                exact K44 (oRy a3.toNatClampNeg) hk43 H locs ls hP hD hS (lv_sub hl [0, 5] rfl)
            replace hf := xsBd_use hf
            obtain ⟨v48, hf, hk49⟩ := hf
            refine lv_if_eq (tgt := 232) hx hb dX0_studyAlike_219 (by decide) (fun c53 => ?_) (fun c53 => ?_)
            · replace hf := xsBr_t c53 hf
              refine lv_aload_n hx hb dX0_studyAlike_232 rfl (lv_at hl 2 rfl) ?_
              refine xg_X0_49 (j := js) hjs C hP dX0_studyAlike_233 ?_
              refine lv_iload_n hx hb dX0_studyAlike_236 rfl (lv_at hl 3 rfl) ?_
              replace hf := xsCk_use hf
              obtain ⟨h51, hf⟩ := hf
              refine xl_s2 (j := js) hjs hs_s C hP h51 dX0_studyAlike_237 ?_
              have ev := Option.some.inj hf
              subst ev
              exact K50 (sRx a1.toNatClampNeg) hk49 H locs ls hP hD hS (lv_sub hl [1, 2, 3, 4, 5, 6, 0] rfl)
            · replace hf := xsBr_f c53 hf
              refine lv_aload_n hx hb dX0_studyAlike_222 rfl (lv_at hl 4 rfl) ?_
              refine xg_X0_49 (j := jo) hjo C hP dX0_studyAlike_223 ?_
              refine lv_iload hx hb dX0_studyAlike_226 (lv_at hl 5 rfl) ?_
              replace hf := xsCk_use hf
              obtain ⟨h52, hf⟩ := hf
              refine xl_s2 (j := jo) hjo hs_o C hP h52 dX0_studyAlike_228 ?_
              refine lv_goto (tgt := 238) hx hb dX0_studyAlike_229 (by decide) ?_
              have ev := Option.some.inj hf
              subst ev
              exact K50 (oRx a3.toNatClampNeg) hk49 H locs ls hP hD hS (lv_sub hl [1, 2, 3, 4, 5, 6, 0] rfl)
          replace hf := xsBd_use hf
          obtain ⟨v54, hf, hk55⟩ := hf
          refine lv_icmp_lt (tgt := 209) hx hb dX0_studyAlike_174 (by decide) (fun c63 => ?_) (fun c63 => ?_)
          · replace hf := xsBr_t c63 hf
            refine lv_iconst (v := (1 : Int32)) hx hb dX0_studyAlike_209 (by decide) ?_
            refine lv_goto (tgt := 214) hx hb dX0_studyAlike_210 (by decide) ?_
            have ev := Option.some.inj hf
            subst ev
            exact K56 (1 : Int32) hk55 H locs ls hP hD hS (lv_sub hl [0, 1, 2, 3, 4, 5] rfl)
          · replace hf := xsBr_f c63 hf
            refine lv_aload_n hx hb dX0_studyAlike_177 rfl (lv_at hl 3 rfl) ?_
            refine xg_X0_49 (j := jo) hjo C hP dX0_studyAlike_178 ?_
            refine lv_iload hx hb dX0_studyAlike_181 (lv_at hl 4 rfl) ?_
            replace hf := xsCk_use hf
            obtain ⟨h57, hf⟩ := hf
            refine xl_s2 (j := jo) hjo hs_o C hP h57 dX0_studyAlike_183 ?_
            refine lv_aload_n hx hb dX0_studyAlike_184 rfl (lv_at hl 1 rfl) ?_
            refine xg_X0_49 (j := js) hjs C hP dX0_studyAlike_185 ?_
            refine lv_iload_n hx hb dX0_studyAlike_188 rfl (lv_at hl 2 rfl) ?_
            replace hf := xsCk_use hf
            obtain ⟨h58, hf⟩ := hf
            refine xl_s2 (j := js) hjs hs_s C hP h58 dX0_studyAlike_189 ?_
            refine lv_icmp_ne (tgt := 213) hx hb dX0_studyAlike_190 (by decide) (fun c62 => ?_) (fun c62 => ?_)
            · replace hf := xsBr_f c62 hf
              refine lv_iconst (v := (0 : Int32)) hx hb dX0_studyAlike_213 (by decide) ?_
              have ev := Option.some.inj hf
              subst ev
              exact K56 (0 : Int32) hk55 H locs ls hP hD hS (lv_sub hl [0, 1, 2, 3, 4, 5] rfl)
            · replace hf := xsBr_t c62 hf
              refine lv_aload_n hx hb dX0_studyAlike_193 rfl (lv_at hl 3 rfl) ?_
              refine xg_X0_52 (j := jo) hjo C hP dX0_studyAlike_194 ?_
              refine lv_iload hx hb dX0_studyAlike_197 (lv_at hl 4 rfl) ?_
              replace hf := xsCk_use hf
              obtain ⟨h59, hf⟩ := hf
              refine xl_s3 (j := jo) hjo hs_o C hP h59 dX0_studyAlike_199 ?_
              refine lv_aload_n hx hb dX0_studyAlike_200 rfl (lv_at hl 1 rfl) ?_
              refine xg_X0_52 (j := js) hjs C hP dX0_studyAlike_201 ?_
              refine lv_iload_n hx hb dX0_studyAlike_204 rfl (lv_at hl 2 rfl) ?_
              replace hf := xsCk_use hf
              obtain ⟨h60, hf⟩ := hf
              refine xl_s3 (j := js) hjs hs_s C hP h60 dX0_studyAlike_205 ?_
              refine lv_icmp_ge (tgt := 213) hx hb dX0_studyAlike_206 (by decide) (fun c61 => ?_) (fun c61 => ?_)
              · replace hf := xsBr_t c61 hf
                refine lv_iconst (v := (0 : Int32)) hx hb dX0_studyAlike_213 (by decide) ?_
                have ev := Option.some.inj hf
                subst ev
                exact K56 (0 : Int32) hk55 H locs ls hP hD hS (lv_sub hl [0, 1, 2, 3, 4, 5] rfl)
              · replace hf := xsBr_f c61 hf
                refine lv_iconst (v := (1 : Int32)) hx hb dX0_studyAlike_209 (by decide) ?_
                refine lv_goto (tgt := 214) hx hb dX0_studyAlike_210 (by decide) ?_
                have ev := Option.some.inj hf
                subst ev
                exact K56 (1 : Int32) hk55 H locs ls hP hD hS (lv_sub hl [0, 1, 2, 3, 4, 5] rfl)
        replace hf := xsBd_use hf
        obtain ⟨v64, hf, hk65⟩ := hf
        refine lv_if_eq (tgt := 152) hx hb dX0_studyAlike_139 (by decide) (fun c69 => ?_) (fun c69 => ?_)
        · replace hf := xsBr_t c69 hf
          refine lv_aload_n hx hb dX0_studyAlike_152 rfl (lv_at hl 1 rfl) ?_
          refine xg_X0_34 (j := js) hjs C hP dX0_studyAlike_153 ?_
          refine lv_iload_n hx hb dX0_studyAlike_156 rfl (lv_at hl 2 rfl) ?_
          replace hf := xsCk_use hf
          obtain ⟨h67, hf⟩ := hf
          refine xl_s1 (j := js) hjs hs_s C hP h67 dX0_studyAlike_157 ?_
          have ev := Option.some.inj hf
          subst ev
          exact K66 (sLy a1.toNatClampNeg) hk65 H locs ls hP hD hS (lv_sub hl [0, 1, 2, 3, 4, 5] rfl)
        · replace hf := xsBr_f c69 hf
          refine lv_aload_n hx hb dX0_studyAlike_142 rfl (lv_at hl 3 rfl) ?_
          refine xg_X0_34 (j := jo) hjo C hP dX0_studyAlike_143 ?_
          refine lv_iload hx hb dX0_studyAlike_146 (lv_at hl 4 rfl) ?_
          replace hf := xsCk_use hf
          obtain ⟨h68, hf⟩ := hf
          refine xl_s1 (j := jo) hjo hs_o C hP h68 dX0_studyAlike_148 ?_
          refine lv_goto (tgt := 158) hx hb dX0_studyAlike_149 (by decide) ?_
          have ev := Option.some.inj hf
          subst ev
          exact K66 (oLy a3.toNatClampNeg) hk65 H locs ls hP hD hS (lv_sub hl [0, 1, 2, 3, 4, 5] rfl)
      replace hf := xsBd_use hf
      obtain ⟨v70, hf, hk71⟩ := hf
      refine lv_if_eq (tgt := 127) hx hb dX0_studyAlike_114 (by decide) (fun c75 => ?_) (fun c75 => ?_)
      · replace hf := xsBr_t c75 hf
        refine lv_aload_n hx hb dX0_studyAlike_127 rfl (lv_at hl 2 rfl) ?_
        refine xg_X0_30 (j := js) hjs C hP dX0_studyAlike_128 ?_
        refine lv_iload_n hx hb dX0_studyAlike_131 rfl (lv_at hl 3 rfl) ?_
        replace hf := xsCk_use hf
        obtain ⟨h73, hf⟩ := hf
        refine xl_s0 (j := js) hjs hs_s C hP h73 dX0_studyAlike_132 ?_
        have ev := Option.some.inj hf
        subst ev
        exact K72 (sLx a1.toNatClampNeg) hk71 H locs ls hP hD hS (lv_sub hl [1, 2, 3, 4, 5, 6, 0] rfl)
      · replace hf := xsBr_f c75 hf
        refine lv_aload_n hx hb dX0_studyAlike_117 rfl (lv_at hl 4 rfl) ?_
        refine xg_X0_30 (j := jo) hjo C hP dX0_studyAlike_118 ?_
        refine lv_iload hx hb dX0_studyAlike_121 (lv_at hl 5 rfl) ?_
        replace hf := xsCk_use hf
        obtain ⟨h74, hf⟩ := hf
        refine xl_s0 (j := jo) hjo hs_o C hP h74 dX0_studyAlike_123 ?_
        refine lv_goto (tgt := 133) hx hb dX0_studyAlike_124 (by decide) ?_
        have ev := Option.some.inj hf
        subst ev
        exact K72 (oLx a3.toNatClampNeg) hk71 H locs ls hP hD hS (lv_sub hl [1, 2, 3, 4, 5, 6, 0] rfl)
    replace hf := xsBd_use hf
    obtain ⟨v76, hf, hk77⟩ := hf
    refine xs_lcmp_gt (tgt := 104) C dX0_studyAlike_86 dX0_studyAlike_87 (by decide) (fun c81 => ?_) (fun c81 => ?_)
    · replace hf := xsBr_t c81 hf
      refine lv_iconst (v := (1 : Int32)) hx hb dX0_studyAlike_104 (by decide) ?_
      refine lv_goto (tgt := 109) hx hb dX0_studyAlike_105 (by decide) ?_
      have ev := Option.some.inj hf
      subst ev
      exact K78 (1 : Int32) hk77 H locs ls hP hD hS (lv_sub hl [1, 2, 3, 4, 5, 0] rfl)
    · replace hf := xsBr_f c81 hf
      refine lv_lload hx hb dX0_studyAlike_90 (lv_at hl 6 rfl) ?_
      refine lv_lconst (v := (0 : Int64)) hx hb dX0_studyAlike_92 (by decide) ?_
      refine xs_lcmp_ne (tgt := 108) C dX0_studyAlike_93 dX0_studyAlike_94 (by decide) (fun c80 => ?_) (fun c80 => ?_)
      · replace hf := xsBr_f c80 hf
        refine lv_iconst (v := (0 : Int32)) hx hb dX0_studyAlike_108 (by decide) ?_
        have ev := Option.some.inj hf
        subst ev
        exact K78 (0 : Int32) hk77 H locs ls hP hD hS (lv_sub hl [1, 2, 3, 4, 5, 0] rfl)
      · replace hf := xsBr_t c80 hf
        refine lv_lload hx hb dX0_studyAlike_97 (lv_at hl 7 rfl) ?_
        refine lv_lconst (v := (0 : Int64)) hx hb dX0_studyAlike_99 (by decide) ?_
        refine xs_lcmp_le (tgt := 108) C dX0_studyAlike_100 dX0_studyAlike_101 (by decide) (fun c79 => ?_) (fun c79 => ?_)
        · replace hf := xsBr_t c79 hf
          refine lv_iconst (v := (0 : Int32)) hx hb dX0_studyAlike_108 (by decide) ?_
          have ev := Option.some.inj hf
          subst ev
          exact K78 (0 : Int32) hk77 H locs ls hP hD hS (lv_sub hl [1, 2, 3, 4, 5, 0] rfl)
        · replace hf := xsBr_f c79 hf
          refine lv_iconst (v := (1 : Int32)) hx hb dX0_studyAlike_104 (by decide) ?_
          refine lv_goto (tgt := 109) hx hb dX0_studyAlike_105 (by decide) ?_
          have ev := Option.some.inj hf
          subst ev
          exact K78 (1 : Int32) hk77 H locs ls hP hD hS (lv_sub hl [1, 2, 3, 4, 5, 0] rfl)
  replace hf := xsBd_use hf
  obtain ⟨v82, hf, hk83⟩ := hf
  refine xs_lcmp_ne (tgt := 80) C dX0_studyAlike_50 dX0_studyAlike_51 (by decide) (fun c90 => ?_) (fun c90 => ?_)
  · replace hf := xsBr_f c90 hf
    refine lv_iconst (v := (0 : Int32)) hx hb dX0_studyAlike_80 (by decide) ?_
    have ev := Option.some.inj hf
    subst ev
    exact K84 (0 : Int32) hk83 H locs ls hP hD hS (lv_sub hl [2, 3, 4, 5, 6, 1, 0] rfl)
  · replace hf := xsBr_t c90 hf
    refine lv_lload hx hb dX0_studyAlike_54 (lv_at hl 1 rfl) ?_
    refine lv_aload_n hx hb dX0_studyAlike_56 rfl (lv_at hl 5 rfl) ?_
    refine lv_iload hx hb dX0_studyAlike_57 (lv_at hl 6 rfl) ?_
    replace hf := xsBd_use hf
    obtain ⟨o85, h86, hf⟩ := hf
    refine xs_calll hS (xs_runV (As := [.int a3]) C (mX7_rise l (js := jo) hjo hs_o h86) w_574 w_575 w_576 w_106 w_577 hd_X7_rise ⟨rfl, rfl, Nat.le_of_ble_eq_true rfl, Nat.le_of_ble_eq_true rfl, Nat.zero_le _, Nat.zero_le _⟩ hP hD hS (xs_lkS hjo) rfl hl.1 rfl (Nat.le_of_ble_eq_true rfl) dX0_studyAlike_59) (fun H locs hP hD hS => ?_)
    refine lv_lmul hx hb dX0_studyAlike_62 ?_
    refine lv_lload hx hb dX0_studyAlike_63 (lv_at hl 0 rfl) ?_
    refine lv_aload_n hx hb dX0_studyAlike_65 rfl (lv_at hl 5 rfl) ?_
    refine lv_iload hx hb dX0_studyAlike_66 (lv_at hl 6 rfl) ?_
    replace hf := xsBd_use hf
    obtain ⟨o87, h88, hf⟩ := hf
    refine xs_calll hS (xs_runV (As := [.int a3]) C (mX7_width l (js := jo) hjo hs_o h88) w_570 w_571 w_572 w_106 w_573 hd_X7_width ⟨rfl, rfl, Nat.le_of_ble_eq_true rfl, Nat.le_of_ble_eq_true rfl, Nat.zero_le _, Nat.zero_le _⟩ hP hD hS (xs_lkS hjo) rfl hl.1 rfl (Nat.le_of_ble_eq_true rfl) dX0_studyAlike_68) (fun H locs hP hD hS => ?_)
    refine lv_lmul hx hb dX0_studyAlike_71 ?_
    refine xs_lcmp_ne (tgt := 80) C dX0_studyAlike_72 dX0_studyAlike_73 (by decide) (fun c89 => ?_) (fun c89 => ?_)
    · replace hf := xsBr_f c89 hf
      refine lv_iconst (v := (0 : Int32)) hx hb dX0_studyAlike_80 (by decide) ?_
      have ev := Option.some.inj hf
      subst ev
      exact K84 (0 : Int32) hk83 H locs ls hP hD hS (lv_sub hl [2, 3, 4, 5, 6, 1, 0] rfl)
    · replace hf := xsBr_t c89 hf
      refine lv_iconst (v := (1 : Int32)) hx hb dX0_studyAlike_76 (by decide) ?_
      refine lv_goto (tgt := 81) hx hb dX0_studyAlike_77 (by decide) ?_
      have ev := Option.some.inj hf
      subst ev
      exact K84 (1 : Int32) hk83 H locs ls hP hD hS (lv_sub hl [2, 3, 4, 5, 6, 1, 0] rfl)
set_option maxRecDepth 100000 in
set_option maxHeartbeats 8000000 in
theorem mX0_study (l : Launch) {X : xsX} {kIsKept kIsStale hiLatest hiSize scLength scFault scAt scNumber piSegmentsNow enKind enFromX enFromY enToX enToY tiMeetingPairs tiAlongPairs tiSize evSize evCrossings evSegmentsNow grEdges grQueued huSize huBestX huBestY : Int32} {scBytes scTold tiTouching tiLyingAlong evBundle evCrossingOf evEventOf evLeftEvent evRightEvent grDegree grFar grQueue huX huY : Nat → Int32} {enX enY enLower : Int64} {evX evY evLower : Nat → Int64} {S : Nat → xsV} {Rw : va_W} {js : Nat} (hjs : js < 12) {jo : Nat} (hjo : jo < 12) {sLx sLy sRx sRy sTi : Nat → Int32} {sSz : Int32} (hs_s : S js = (sLx, sLy, sRx, sRy, sTi, sSz)) {oLx oLy oRx oRy oTi : Nat → Int32} {oSz : Int32} (hs_o : S jo = (oLx, oLy, oRx, oRy, oTi, oSz)) {a1 : Int32} {a3 : Int32} {out : Int32 × Int64 × Int64 × Int64 × Int32 × Int32 × Int32 × Int32} (hf : fX0_study enKind enX enY enLower enFromX enFromY enToX enToY sLx sLy sRx sRy oLx oLy oRx oRy a1 a3 = some out) : Met l yX0_study (xsWs yX0_study cX0_study 16 none) { frames := 2, cells := 0, slots := 0, locals := 54 } (xsP X (wK X kIsKept kIsStale hiLatest hiSize scBytes scTold scLength scFault scAt scNumber piSegmentsNow enKind enX enY enLower enFromX enFromY enToX enToY tiTouching tiLyingAlong tiMeetingPairs tiAlongPairs tiSize evX evY evLower evBundle evCrossingOf evEventOf evLeftEvent evRightEvent evSize evCrossings evSegmentsNow grDegree grEdges grFar grQueue grQueued huX huY huSize huBestX huBestY S Rw) [.ref (xsA X 7), .ref (xsA X (27 + 6 * js)), .int a1, .ref (xsA X (27 + 6 * jo)), .int a3]) (xsQv X (wK X kIsKept kIsStale hiLatest hiSize scBytes scTold scLength scFault scAt scNumber piSegmentsNow out.1 out.2.1 out.2.2.1 out.2.2.2.1 out.2.2.2.2.1 out.2.2.2.2.2.1 out.2.2.2.2.2.2.1 out.2.2.2.2.2.2.2 tiTouching tiLyingAlong tiMeetingPairs tiAlongPairs tiSize evX evY evLower evBundle evCrossingOf evEventOf evLeftEvent evRightEvent evSize evCrossings evSegmentsNow grDegree grEdges grFar grQueue grQueued huX huY huSize huBestX huBestY S Rw)) 0 0 (xsF X) := by
  refine xs_meth RX0 (by decide) rfl (Nat.le_of_ble_eq_true rfl) ?_
  intro p e s m below meth c ls H locs C hP hD hS hr hlk hl
  have hx := C.1
  have hb := C.2.1
  have hl : lv_has ls 16 [(0, .ref (xsA X 7)), (1, .ref (xsA X (27 + 6 * js))), (2, .int a1), (3, .ref (xsA X (27 + 6 * jo))), (4, .int a3)] := hl
  obtain ⟨Qq, hQq⟩ : ∃ Qq, Qq = xsQv X (wK X kIsKept kIsStale hiLatest hiSize scBytes scTold scLength scFault scAt scNumber piSegmentsNow out.1 out.2.1 out.2.2.1 out.2.2.2.1 out.2.2.2.2.1 out.2.2.2.2.2.1 out.2.2.2.2.2.2.1 out.2.2.2.2.2.2.2 tiTouching tiLyingAlong tiMeetingPairs tiAlongPairs tiSize evX evY evLower evBundle evCrossingOf evEventOf evLeftEvent evRightEvent evSize evCrossings evSegmentsNow grDegree grEdges grFar grQueue grQueued huX huY huSize huBestX huBestY S Rw) := ⟨_, rfl⟩
  rw [← hQq]
  unfold fX0_study at hf
  refine lv_aload_n hx hb dX0_study_0 rfl (lv_at hl 1 rfl) ?_
  refine lv_iload_n hx hb dX0_study_1 rfl (lv_at hl 2 rfl) ?_
  replace hf := xsBd_use hf
  obtain ⟨o1, h2, hf⟩ := hf
  refine xs_calll hS (xs_runV (As := [.int a1]) C (mX7_width l (js := js) hjs hs_s h2) w_570 w_571 w_572 w_106 w_573 hd_X7_width ⟨rfl, rfl, Nat.le_of_ble_eq_true rfl, Nat.le_of_ble_eq_true rfl, Nat.zero_le _, Nat.zero_le _⟩ hP hD hS (xs_lkS hjs) rfl hl.1 rfl (Nat.le_of_ble_eq_true rfl) dX0_study_2) (fun H locs hP hD hS => ?_)
  refine lv_aload_n hx hb dX0_study_5 rfl (lv_at hl 3 rfl) ?_
  refine lv_iload hx hb dX0_study_6 (lv_at hl 4 rfl) ?_
  replace hf := xsBd_use hf
  obtain ⟨o3, h4, hf⟩ := hf
  refine xs_calll hS (xs_runV (As := [.int a3]) C (mX7_rise l (js := jo) hjo hs_o h4) w_574 w_575 w_576 w_106 w_577 hd_X7_rise ⟨rfl, rfl, Nat.le_of_ble_eq_true rfl, Nat.le_of_ble_eq_true rfl, Nat.zero_le _, Nat.zero_le _⟩ hP hD hS (xs_lkS hjo) rfl hl.1 rfl (Nat.le_of_ble_eq_true rfl) dX0_study_8) (fun H locs hP hD hS => ?_)
  refine lv_lmul hx hb dX0_study_11 ?_
  refine lv_aload_n hx hb dX0_study_12 rfl (lv_at hl 1 rfl) ?_
  refine lv_iload_n hx hb dX0_study_13 rfl (lv_at hl 2 rfl) ?_
  replace hf := xsBd_use hf
  obtain ⟨o5, h6, hf⟩ := hf
  refine xs_calll hS (xs_runV (As := [.int a1]) C (mX7_rise l (js := js) hjs hs_s h6) w_574 w_575 w_576 w_106 w_577 hd_X7_rise ⟨rfl, rfl, Nat.le_of_ble_eq_true rfl, Nat.le_of_ble_eq_true rfl, Nat.zero_le _, Nat.zero_le _⟩ hP hD hS (xs_lkS hjs) rfl hl.1 rfl (Nat.le_of_ble_eq_true rfl) dX0_study_14) (fun H locs hP hD hS => ?_)
  refine lv_aload_n hx hb dX0_study_17 rfl (lv_at hl 3 rfl) ?_
  refine lv_iload hx hb dX0_study_18 (lv_at hl 4 rfl) ?_
  replace hf := xsBd_use hf
  obtain ⟨o7, h8, hf⟩ := hf
  refine xs_calll hS (xs_runV (As := [.int a3]) C (mX7_width l (js := jo) hjo hs_o h8) w_570 w_571 w_572 w_106 w_573 hd_X7_width ⟨rfl, rfl, Nat.le_of_ble_eq_true rfl, Nat.le_of_ble_eq_true rfl, Nat.zero_le _, Nat.zero_le _⟩ hP hD hS (xs_lkS hjo) rfl hl.1 rfl (Nat.le_of_ble_eq_true rfl) dX0_study_20) (fun H locs hP hD hS => ?_)
  refine lv_lmul hx hb dX0_study_23 ?_
  refine lv_lsub hx hb dX0_study_24 ?_
  refine lv_topl (fun x9 ex9 => ?_)
  replace hf := xsLt_use ex9 hf
  refine lv_lstore (lv' := [(5, .long x9), (0, .ref (xsA X 7)), (1, .ref (xsA X (27 + 6 * js))), (2, .int a1), (3, .ref (xsA X (27 + 6 * jo))), (4, .int a3)]) hx hb dX0_study_25 hl (by decide) rfl (fun ls hl => ?_)
  refine lv_aload_n hx hb dX0_study_27 rfl (lv_at hl 1 rfl) ?_
  refine lv_lconst (v := (1 : Int64)) hx hb dX0_study_28 (by decide) ?_
  refine xp_X0_13 C hP hD hS dX0_study_29 (fun H locs hP hD hS => ?_)
  refine lv_lload hx hb dX0_study_32 (lv_at hl 0 rfl) ?_
  refine lv_lconst (v := (0 : Int64)) hx hb dX0_study_34 (by decide) ?_
  refine xs_lcmp_ne (tgt := 49) C dX0_study_35 dX0_study_36 (by decide) (fun c59 => ?_) (fun c59 => ?_)
  · replace hf := xsBr_f c59 hf
    refine lv_aload_n hx hb dX0_study_49 rfl (lv_at hl 4 rfl) ?_
    refine xg_X0_30 (j := jo) hjo C hP dX0_study_50 ?_
    refine lv_iload hx hb dX0_study_53 (lv_at hl 5 rfl) ?_
    replace hf := xsCk_use hf
    obtain ⟨h10, hf⟩ := hf
    refine xl_s0 (j := jo) hjo hs_o C hP h10 dX0_study_55 ?_
    refine lv_aload_n hx hb dX0_study_56 rfl (lv_at hl 2 rfl) ?_
    refine xg_X0_30 (j := js) hjs C hP dX0_study_57 ?_
    refine lv_iload_n hx hb dX0_study_60 rfl (lv_at hl 3 rfl) ?_
    replace hf := xsCk_use hf
    obtain ⟨h11, hf⟩ := hf
    refine xl_s0 (j := js) hjs hs_s C hP h11 dX0_study_61 ?_
    refine lv_isub hx hb dX0_study_62 ?_
    refine lv_i2l hx hb dX0_study_63 rfl ?_
    refine lv_topl (fun x12 ex12 => ?_)
    replace hf := xsLt_use ex12 hf
    refine lv_lstore (lv' := [(7, .long x12), (5, .long x9), (0, .ref (xsA X 7)), (1, .ref (xsA X (27 + 6 * js))), (2, .int a1), (3, .ref (xsA X (27 + 6 * jo))), (4, .int a3)]) hx hb dX0_study_64 hl (by decide) rfl (fun ls hl => ?_)
    refine lv_aload_n hx hb dX0_study_66 rfl (lv_at hl 5 rfl) ?_
    refine xg_X0_34 (j := jo) hjo C hP dX0_study_67 ?_
    refine lv_iload hx hb dX0_study_70 (lv_at hl 6 rfl) ?_
    replace hf := xsCk_use hf
    obtain ⟨h13, hf⟩ := hf
    refine xl_s1 (j := jo) hjo hs_o C hP h13 dX0_study_72 ?_
    refine lv_aload_n hx hb dX0_study_73 rfl (lv_at hl 3 rfl) ?_
    refine xg_X0_34 (j := js) hjs C hP dX0_study_74 ?_
    refine lv_iload_n hx hb dX0_study_77 rfl (lv_at hl 4 rfl) ?_
    replace hf := xsCk_use hf
    obtain ⟨h14, hf⟩ := hf
    refine xl_s1 (j := js) hjs hs_s C hP h14 dX0_study_78 ?_
    refine lv_isub hx hb dX0_study_79 ?_
    refine lv_i2l hx hb dX0_study_80 rfl ?_
    refine lv_topl (fun x15 ex15 => ?_)
    replace hf := xsLt_use ex15 hf
    refine lv_lstore (lv' := [(9, .long x15), (7, .long x12), (5, .long x9), (0, .ref (xsA X 7)), (1, .ref (xsA X (27 + 6 * js))), (2, .int a1), (3, .ref (xsA X (27 + 6 * jo))), (4, .int a3)]) hx hb dX0_study_81 hl (by decide) rfl (fun ls hl => ?_)
    refine lv_lload hx hb dX0_study_83 (lv_at hl 1 rfl) ?_
    refine lv_aload_n hx hb dX0_study_85 rfl (lv_at hl 6 rfl) ?_
    refine lv_iload hx hb dX0_study_86 (lv_at hl 7 rfl) ?_
    replace hf := xsBd_use hf
    obtain ⟨o16, h17, hf⟩ := hf
    refine xs_calll hS (xs_runV (As := [.int a3]) C (mX7_rise l (js := jo) hjo hs_o h17) w_574 w_575 w_576 w_106 w_577 hd_X7_rise ⟨rfl, rfl, Nat.le_of_ble_eq_true rfl, Nat.le_of_ble_eq_true rfl, Nat.zero_le _, Nat.zero_le _⟩ hP hD hS (xs_lkS hjo) rfl hl.1 rfl (Nat.le_of_ble_eq_true rfl) dX0_study_88) (fun H locs hP hD hS => ?_)
    refine lv_lmul hx hb dX0_study_91 ?_
    refine lv_lload hx hb dX0_study_92 (lv_at hl 0 rfl) ?_
    refine lv_aload_n hx hb dX0_study_94 rfl (lv_at hl 6 rfl) ?_
    refine lv_iload hx hb dX0_study_95 (lv_at hl 7 rfl) ?_
    replace hf := xsBd_use hf
    obtain ⟨o18, h19, hf⟩ := hf
    refine xs_calll hS (xs_runV (As := [.int a3]) C (mX7_width l (js := jo) hjo hs_o h19) w_570 w_571 w_572 w_106 w_573 hd_X7_width ⟨rfl, rfl, Nat.le_of_ble_eq_true rfl, Nat.le_of_ble_eq_true rfl, Nat.zero_le _, Nat.zero_le _⟩ hP hD hS (xs_lkS hjo) rfl hl.1 rfl (Nat.le_of_ble_eq_true rfl) dX0_study_97) (fun H locs hP hD hS => ?_)
    refine lv_lmul hx hb dX0_study_100 ?_
    refine lv_lsub hx hb dX0_study_101 ?_
    refine lv_topl (fun x20 ex20 => ?_)
    replace hf := xsLt_use ex20 hf
    refine lv_lstore (lv' := [(11, .long x20), (9, .long x15), (7, .long x12), (5, .long x9), (0, .ref (xsA X 7)), (1, .ref (xsA X (27 + 6 * js))), (2, .int a1), (3, .ref (xsA X (27 + 6 * jo))), (4, .int a3)]) hx hb dX0_study_102 hl (by decide) rfl (fun ls hl => ?_)
    refine lv_lload hx hb dX0_study_104 (lv_at hl 2 rfl) ?_
    refine lv_aload_n hx hb dX0_study_106 rfl (lv_at hl 5 rfl) ?_
    refine lv_iload_n hx hb dX0_study_107 rfl (lv_at hl 6 rfl) ?_
    replace hf := xsBd_use hf
    obtain ⟨o21, h22, hf⟩ := hf
    refine xs_calll hS (xs_runV (As := [.int a1]) C (mX7_rise l (js := js) hjs hs_s h22) w_574 w_575 w_576 w_106 w_577 hd_X7_rise ⟨rfl, rfl, Nat.le_of_ble_eq_true rfl, Nat.le_of_ble_eq_true rfl, Nat.zero_le _, Nat.zero_le _⟩ hP hD hS (xs_lkS hjs) rfl hl.1 rfl (Nat.le_of_ble_eq_true rfl) dX0_study_108) (fun H locs hP hD hS => ?_)
    refine lv_lmul hx hb dX0_study_111 ?_
    refine lv_lload hx hb dX0_study_112 (lv_at hl 1 rfl) ?_
    refine lv_aload_n hx hb dX0_study_114 rfl (lv_at hl 5 rfl) ?_
    refine lv_iload_n hx hb dX0_study_115 rfl (lv_at hl 6 rfl) ?_
    replace hf := xsBd_use hf
    obtain ⟨o23, h24, hf⟩ := hf
    refine xs_calll hS (xs_runV (As := [.int a1]) C (mX7_width l (js := js) hjs hs_s h24) w_570 w_571 w_572 w_106 w_573 hd_X7_width ⟨rfl, rfl, Nat.le_of_ble_eq_true rfl, Nat.le_of_ble_eq_true rfl, Nat.zero_le _, Nat.zero_le _⟩ hP hD hS (xs_lkS hjs) rfl hl.1 rfl (Nat.le_of_ble_eq_true rfl) dX0_study_116) (fun H locs hP hD hS => ?_)
    refine lv_lmul hx hb dX0_study_119 ?_
    refine lv_lsub hx hb dX0_study_120 ?_
    refine lv_topl (fun x25 ex25 => ?_)
    replace hf := xsLt_use ex25 hf
    refine lv_lstore (lv' := [(13, .long x25), (11, .long x20), (9, .long x15), (7, .long x12), (5, .long x9), (0, .ref (xsA X 7)), (1, .ref (xsA X (27 + 6 * js))), (2, .int a1), (3, .ref (xsA X (27 + 6 * jo))), (4, .int a3)]) hx hb dX0_study_121 hl (by decide) rfl (fun ls hl => ?_)
    refine lv_lload hx hb dX0_study_123 (lv_at hl 4 rfl) ?_
    refine lv_lconst (v := (0 : Int64)) hx hb dX0_study_125 (by decide) ?_
    have K52 : ∀ (y26 : Int64) (y27 : Int64) (y28 : Int64) (hf : fX0_study_J145 enFromX enFromY enToX enToY sLx sLy sRx sRy a1 y26 y27 y28 = some out) (H : Heap) (locs : List Loc) (ls : Array Slot), va_P (xsD X) vwCl (wK X kIsKept kIsStale hiLatest hiSize scBytes scTold scLength scFault scAt scNumber piSegmentsNow enKind enX enY (1 : Int64) enFromX enFromY enToX enToY tiTouching tiLyingAlong tiMeetingPairs tiAlongPairs tiSize evX evY evLower evBundle evCrossingOf evEventOf evLeftEvent evRightEvent evSize evCrossings evSegmentsNow grDegree grEdges grFar grQueue grQueued huX huY huSize huBestX huBestY S Rw) H → va_D (xsF X) (wK X kIsKept kIsStale hiLatest hiSize scBytes scTold scLength scFault scAt scNumber piSegmentsNow enKind enX enY (1 : Int64) enFromX enFromY enToX enToY tiTouching tiLyingAlong tiMeetingPairs tiAlongPairs tiSize evX evY evLower evBundle evCrossingOf evEventOf evLeftEvent evRightEvent evSize evCrossings evSegmentsNow grDegree grEdges grFar grQueue grQueued huX huY huSize huBestX huBestY S Rw) → va_S (xsF X) s.heap H locs → lv_has ls 16 [(0, .ref (xsA X 7)), (1, .ref (xsA X (27 + 6 * js))), (2, .int a1), (5, .long y26), (11, .long y27), (13, .long y28)] → W p l e { frames := 2, cells := 0, slots := 0, locals := 54 } s m ([.ref (xsA X 7), .ref (xsA X (27 + 6 * js)), .int a1, .ref (xsA X (27 + 6 * jo)), .int a3] : List Value).toArray below meth c H locs 0 0 (MQ below Qq ([.ref (xsA X 7), .ref (xsA X (27 + 6 * js)), .int a1, .ref (xsA X (27 + 6 * jo)), .int a3] : List Value).toArray s 0 0 (xsF X)) (F0 m 145 ls []) := by
      intro y26 y27 y28 hf H locs ls hP hD hS hl
      unfold fX0_study_J145 at hf
      refine lv_lload hx hb dX0_study_145 (lv_at hl 4 rfl) ?_
      refine lv_lconst (v := (0 : Int64)) hx hb dX0_study_147 (by decide) ?_
      have K45 : ∀ (y29 : Int32) (hf : fX0_study_J180 enFromX enFromY enToX enToY sLx sLy sRx sRy a1 y26 y27 y29 = some out) (H : Heap) (locs : List Loc) (ls : Array Slot), va_P (xsD X) vwCl (wK X kIsKept kIsStale hiLatest hiSize scBytes scTold scLength scFault scAt scNumber piSegmentsNow enKind enX enY (1 : Int64) enFromX enFromY enToX enToY tiTouching tiLyingAlong tiMeetingPairs tiAlongPairs tiSize evX evY evLower evBundle evCrossingOf evEventOf evLeftEvent evRightEvent evSize evCrossings evSegmentsNow grDegree grEdges grFar grQueue grQueued huX huY huSize huBestX huBestY S Rw) H → va_D (xsF X) (wK X kIsKept kIsStale hiLatest hiSize scBytes scTold scLength scFault scAt scNumber piSegmentsNow enKind enX enY (1 : Int64) enFromX enFromY enToX enToY tiTouching tiLyingAlong tiMeetingPairs tiAlongPairs tiSize evX evY evLower evBundle evCrossingOf evEventOf evLeftEvent evRightEvent evSize evCrossings evSegmentsNow grDegree grEdges grFar grQueue grQueued huX huY huSize huBestX huBestY S Rw) → va_S (xsF X) s.heap H locs → lv_has ls 16 [(0, .ref (xsA X 7)), (1, .ref (xsA X (27 + 6 * js))), (2, .int a1), (5, .long y26), (11, .long y27)] → W p l e { frames := 2, cells := 0, slots := 0, locals := 54 } s m ([.ref (xsA X 7), .ref (xsA X (27 + 6 * js)), .int a1, .ref (xsA X (27 + 6 * jo)), .int a3] : List Value).toArray below meth c H locs 0 0 (MQ below Qq ([.ref (xsA X 7), .ref (xsA X (27 + 6 * js)), .int a1, .ref (xsA X (27 + 6 * jo)), .int a3] : List Value).toArray s 0 0 (xsF X)) (F0 m 180 ls [.int y29]) := by
        intro y29 hf H locs ls hP hD hS hl
        unfold fX0_study_J180 at hf
        refine lv_istore (lv' := [(15, .int y29), (0, .ref (xsA X 7)), (1, .ref (xsA X (27 + 6 * js))), (2, .int a1), (5, .long y26), (11, .long y27)]) hx hb dX0_study_180 hl (by decide) rfl (fun ls hl => ?_)
        refine lv_aload_n hx hb dX0_study_182 rfl (lv_at hl 1 rfl) ?_
        refine lv_iload hx hb dX0_study_183 (lv_at hl 0 rfl) ?_
        have K41 : ∀ (y30 : Int32) (hf : fX0_study_J193 enFromX enFromY enToX enToY sLx sLy sRx sRy a1 y26 y27 y30 = some out) (H : Heap) (locs : List Loc) (ls : Array Slot), va_P (xsD X) vwCl (wK X kIsKept kIsStale hiLatest hiSize scBytes scTold scLength scFault scAt scNumber piSegmentsNow enKind enX enY (1 : Int64) enFromX enFromY enToX enToY tiTouching tiLyingAlong tiMeetingPairs tiAlongPairs tiSize evX evY evLower evBundle evCrossingOf evEventOf evLeftEvent evRightEvent evSize evCrossings evSegmentsNow grDegree grEdges grFar grQueue grQueued huX huY huSize huBestX huBestY S Rw) H → va_D (xsF X) (wK X kIsKept kIsStale hiLatest hiSize scBytes scTold scLength scFault scAt scNumber piSegmentsNow enKind enX enY (1 : Int64) enFromX enFromY enToX enToY tiTouching tiLyingAlong tiMeetingPairs tiAlongPairs tiSize evX evY evLower evBundle evCrossingOf evEventOf evLeftEvent evRightEvent evSize evCrossings evSegmentsNow grDegree grEdges grFar grQueue grQueued huX huY huSize huBestX huBestY S Rw) → va_S (xsF X) s.heap H locs → lv_has ls 16 [(0, .ref (xsA X 7)), (1, .ref (xsA X (27 + 6 * js))), (2, .int a1), (5, .long y26), (11, .long y27)] → W p l e { frames := 2, cells := 0, slots := 0, locals := 54 } s m ([.ref (xsA X 7), .ref (xsA X (27 + 6 * js)), .int a1, .ref (xsA X (27 + 6 * jo)), .int a3] : List Value).toArray below meth c H locs 0 0 (MQ below Qq ([.ref (xsA X 7), .ref (xsA X (27 + 6 * js)), .int a1, .ref (xsA X (27 + 6 * jo)), .int a3] : List Value).toArray s 0 0 (xsF X)) (F0 m 193 ls [.int y30, .ref (xsA X 7)]) := by
          intro y30 hf H locs ls hP hD hS hl
          unfold fX0_study_J193 at hf
          refine xp_X0_9 C hP hD hS dX0_study_193 (fun H locs hP hD hS => ?_)
          refine lv_aload_n hx hb dX0_study_196 rfl (lv_at hl 0 rfl) ?_
          refine lv_lload hx hb dX0_study_197 (lv_at hl 3 rfl) ?_
          refine xp_X0_13 C hP hD hS dX0_study_199 (fun H locs hP hD hS => ?_)
          refine lv_aload_n hx hb dX0_study_202 rfl (lv_at hl 0 rfl) ?_
          refine lv_aload_n hx hb dX0_study_203 rfl (lv_at hl 1 rfl) ?_
          refine xg_X0_30 (j := js) hjs C hP dX0_study_204 ?_
          refine lv_iload_n hx hb dX0_study_207 rfl (lv_at hl 2 rfl) ?_
          replace hf := xsCk_use hf
          obtain ⟨h31, hf⟩ := hf
          refine xl_s0 (j := js) hjs hs_s C hP h31 dX0_study_208 ?_
          refine lv_i2l hx hb dX0_study_209 rfl ?_
          refine lv_lload hx hb dX0_study_210 (lv_at hl 3 rfl) ?_
          refine lv_lmul hx hb dX0_study_212 ?_
          refine lv_lload hx hb dX0_study_213 (lv_at hl 4 rfl) ?_
          refine lv_aload_n hx hb dX0_study_215 rfl (lv_at hl 1 rfl) ?_
          refine lv_iload_n hx hb dX0_study_216 rfl (lv_at hl 2 rfl) ?_
          replace hf := xsBd_use hf
          obtain ⟨o32, h33, hf⟩ := hf
          refine xs_calll hS (xs_runV (As := [.int a1]) C (mX7_width l (js := js) hjs hs_s h33) w_570 w_571 w_572 w_106 w_573 hd_X7_width ⟨rfl, rfl, Nat.le_of_ble_eq_true rfl, Nat.le_of_ble_eq_true rfl, Nat.zero_le _, Nat.zero_le _⟩ hP hD hS (xs_lkS hjs) rfl hl.1 rfl (Nat.le_of_ble_eq_true rfl) dX0_study_217) (fun H locs hP hD hS => ?_)
          refine lv_lmul hx hb dX0_study_220 ?_
          refine lv_ladd hx hb dX0_study_221 ?_
          refine lv_topl (fun x34 ex34 => ?_)
          replace hf := xsLt_use ex34 hf
          refine xp_X0_37 C hP hD hS dX0_study_222 (fun H locs hP hD hS => ?_)
          refine lv_aload_n hx hb dX0_study_225 rfl (lv_at hl 0 rfl) ?_
          refine lv_aload_n hx hb dX0_study_226 rfl (lv_at hl 1 rfl) ?_
          refine xg_X0_34 (j := js) hjs C hP dX0_study_227 ?_
          refine lv_iload_n hx hb dX0_study_230 rfl (lv_at hl 2 rfl) ?_
          replace hf := xsCk_use hf
          obtain ⟨h35, hf⟩ := hf
          refine xl_s1 (j := js) hjs hs_s C hP h35 dX0_study_231 ?_
          refine lv_i2l hx hb dX0_study_232 rfl ?_
          refine lv_lload hx hb dX0_study_233 (lv_at hl 3 rfl) ?_
          refine lv_lmul hx hb dX0_study_235 ?_
          refine lv_lload hx hb dX0_study_236 (lv_at hl 4 rfl) ?_
          refine lv_aload_n hx hb dX0_study_238 rfl (lv_at hl 1 rfl) ?_
          refine lv_iload_n hx hb dX0_study_239 rfl (lv_at hl 2 rfl) ?_
          replace hf := xsBd_use hf
          obtain ⟨o36, h37, hf⟩ := hf
          refine xs_calll hS (xs_runV (As := [.int a1]) C (mX7_rise l (js := js) hjs hs_s h37) w_574 w_575 w_576 w_106 w_577 hd_X7_rise ⟨rfl, rfl, Nat.le_of_ble_eq_true rfl, Nat.le_of_ble_eq_true rfl, Nat.zero_le _, Nat.zero_le _⟩ hP hD hS (xs_lkS hjs) rfl hl.1 rfl (Nat.le_of_ble_eq_true rfl) dX0_study_240) (fun H locs hP hD hS => ?_)
          refine lv_lmul hx hb dX0_study_243 ?_
          refine lv_ladd hx hb dX0_study_244 ?_
          refine lv_topl (fun x38 ex38 => ?_)
          replace hf := xsLt_use ex38 hf
          refine xp_X0_40 C hP hD hS dX0_study_245 (fun H locs hP hD hS => ?_)
          have ho := Option.some.inj hf
          subst ho
          rw [hQq]
          exact xs_vret C hr hlk hP hD hS dX0_study_248
        replace hf := xsBd_use hf
        obtain ⟨v39, hf, hk40⟩ := hf
        refine lv_if_eq (tgt := 192) hx hb dX0_study_185 (by decide) (fun c42 => ?_) (fun c42 => ?_)
        · replace hf := xsBr_t c42 hf
          refine lv_iconst (v := (0 : Int32)) hx hb dX0_study_192 (by decide) ?_
          have ev := Option.some.inj hf
          subst ev
          exact K41 (0 : Int32) hk40 H locs ls hP hD hS (lv_sub hl [1, 2, 3, 4, 5] rfl)
        · replace hf := xsBr_f c42 hf
          refine lv_iconst (v := (1 : Int32)) hx hb dX0_study_188 (by decide) ?_
          refine lv_goto (tgt := 193) hx hb dX0_study_189 (by decide) ?_
          have ev := Option.some.inj hf
          subst ev
          exact K41 (1 : Int32) hk40 H locs ls hP hD hS (lv_sub hl [1, 2, 3, 4, 5] rfl)
      replace hf := xsBd_use hf
      obtain ⟨v43, hf, hk44⟩ := hf
      refine xs_lcmp_lt (tgt := 179) C dX0_study_148 dX0_study_149 (by decide) (fun c49 => ?_) (fun c49 => ?_)
      · replace hf := xsBr_t c49 hf
        refine lv_iconst (v := (0 : Int32)) hx hb dX0_study_179 (by decide) ?_
        have ev := Option.some.inj hf
        subst ev
        exact K45 (0 : Int32) hk44 H locs ls hP hD hS (lv_sub hl [0, 1, 2, 3, 4] rfl)
      · replace hf := xsBr_f c49 hf
        refine lv_lload hx hb dX0_study_152 (lv_at hl 4 rfl) ?_
        refine lv_lload hx hb dX0_study_154 (lv_at hl 3 rfl) ?_
        refine xs_lcmp_gt (tgt := 179) C dX0_study_156 dX0_study_157 (by decide) (fun c48 => ?_) (fun c48 => ?_)
        · replace hf := xsBr_t c48 hf
          refine lv_iconst (v := (0 : Int32)) hx hb dX0_study_179 (by decide) ?_
          have ev := Option.some.inj hf
          subst ev
          exact K45 (0 : Int32) hk44 H locs ls hP hD hS (lv_sub hl [0, 1, 2, 3, 4] rfl)
        · replace hf := xsBr_f c48 hf
          refine lv_lload hx hb dX0_study_160 (lv_at hl 5 rfl) ?_
          refine lv_lconst (v := (0 : Int64)) hx hb dX0_study_162 (by decide) ?_
          refine xs_lcmp_lt (tgt := 179) C dX0_study_163 dX0_study_164 (by decide) (fun c47 => ?_) (fun c47 => ?_)
          · replace hf := xsBr_t c47 hf
            refine lv_iconst (v := (0 : Int32)) hx hb dX0_study_179 (by decide) ?_
            have ev := Option.some.inj hf
            subst ev
            exact K45 (0 : Int32) hk44 H locs ls hP hD hS (lv_sub hl [0, 1, 2, 3, 4] rfl)
          · replace hf := xsBr_f c47 hf
            refine lv_lload hx hb dX0_study_167 (lv_at hl 5 rfl) ?_
            refine lv_lload hx hb dX0_study_169 (lv_at hl 3 rfl) ?_
            refine xs_lcmp_gt (tgt := 179) C dX0_study_171 dX0_study_172 (by decide) (fun c46 => ?_) (fun c46 => ?_)
            · replace hf := xsBr_t c46 hf
              refine lv_iconst (v := (0 : Int32)) hx hb dX0_study_179 (by decide) ?_
              have ev := Option.some.inj hf
              subst ev
              exact K45 (0 : Int32) hk44 H locs ls hP hD hS (lv_sub hl [0, 1, 2, 3, 4] rfl)
            · replace hf := xsBr_f c46 hf
              refine lv_iconst (v := (1 : Int32)) hx hb dX0_study_175 (by decide) ?_
              refine lv_goto (tgt := 180) hx hb dX0_study_176 (by decide) ?_
              have ev := Option.some.inj hf
              subst ev
              exact K45 (1 : Int32) hk44 H locs ls hP hD hS (lv_sub hl [0, 1, 2, 3, 4] rfl)
    replace hf := xsBd_use hf
    obtain ⟨v50, hf, hk51⟩ := hf
    refine xs_lcmp_ge (tgt := 145) C dX0_study_126 dX0_study_127 (by decide) (fun c56 => ?_) (fun c56 => ?_)
    · replace hf := xsBr_t c56 hf
      have ev := Option.some.inj hf
      subst ev
      exact K52 x9 x20 x25 hk51 H locs ls hP hD hS (lv_sub hl [5, 6, 7, 4, 1, 0] rfl)
    · replace hf := xsBr_f c56 hf
      refine lv_lload hx hb dX0_study_130 (lv_at hl 4 rfl) ?_
      refine lv_lneg hx hb dX0_study_132 ?_
      refine lv_topl (fun x53 ex53 => ?_)
      replace hf := xsLt_use ex53 hf
      refine lv_lstore (lv' := [(5, .long x53), (13, .long x25), (11, .long x20), (9, .long x15), (7, .long x12), (0, .ref (xsA X 7)), (1, .ref (xsA X (27 + 6 * js))), (2, .int a1), (3, .ref (xsA X (27 + 6 * jo))), (4, .int a3)]) hx hb dX0_study_133 hl (by decide) rfl (fun ls hl => ?_)
      refine lv_lload hx hb dX0_study_135 (lv_at hl 2 rfl) ?_
      refine lv_lneg hx hb dX0_study_137 ?_
      refine lv_topl (fun x54 ex54 => ?_)
      replace hf := xsLt_use ex54 hf
      refine lv_lstore (lv' := [(11, .long x54), (5, .long x53), (13, .long x25), (9, .long x15), (7, .long x12), (0, .ref (xsA X 7)), (1, .ref (xsA X (27 + 6 * js))), (2, .int a1), (3, .ref (xsA X (27 + 6 * jo))), (4, .int a3)]) hx hb dX0_study_138 hl (by decide) rfl (fun ls hl => ?_)
      refine lv_lload hx hb dX0_study_140 (lv_at hl 2 rfl) ?_
      refine lv_lneg hx hb dX0_study_142 ?_
      refine lv_topl (fun x55 ex55 => ?_)
      replace hf := xsLt_use ex55 hf
      refine lv_lstore (lv' := [(13, .long x55), (11, .long x54), (5, .long x53), (9, .long x15), (7, .long x12), (0, .ref (xsA X 7)), (1, .ref (xsA X (27 + 6 * js))), (2, .int a1), (3, .ref (xsA X (27 + 6 * jo))), (4, .int a3)]) hx hb dX0_study_143 hl (by decide) rfl (fun ls hl => ?_)
      have ev := Option.some.inj hf
      subst ev
      exact K52 x53 x54 x55 hk51 H locs ls hP hD hS (lv_sub hl [5, 6, 7, 2, 1, 0] rfl)
  · replace hf := xsBr_t c59 hf
    refine lv_aload_n hx hb dX0_study_39 rfl (lv_at hl 1 rfl) ?_
    refine lv_aload_n hx hb dX0_study_40 rfl (lv_at hl 2 rfl) ?_
    refine lv_iload_n hx hb dX0_study_41 rfl (lv_at hl 3 rfl) ?_
    refine lv_aload_n hx hb dX0_study_42 rfl (lv_at hl 4 rfl) ?_
    refine lv_iload hx hb dX0_study_43 (lv_at hl 5 rfl) ?_
    replace hf := xsBd_use hf
    obtain ⟨o57, h58, hf⟩ := hf
    refine xs_callv hS (xs_runV (As := [.ref (xsA X (27 + 6 * js)), .int a1, .ref (xsA X (27 + 6 * jo)), .int a3]) C (mX0_studyAlike l (js := js) hjs (jo := jo) hjo hs_s hs_o h58) w_578 w_580 w_5 w_110 w_581 hd_X0_studyAlike ⟨rfl, rfl, Nat.le_of_ble_eq_true rfl, Nat.le_of_ble_eq_true rfl, Nat.zero_le _, Nat.zero_le _⟩ hP hD hS lk_X0 rfl hl.1 rfl (Nat.le_of_ble_eq_true rfl) dX0_study_45) (fun H locs hP hD hS => ?_)
    have ho := Option.some.inj hf
    subst ho
    rw [hQq]
    exact xs_vret C hr hlk hP hD hS dX0_study_48
set_option maxRecDepth 100000 in
set_option maxHeartbeats 8000000 in
theorem mX0_isAtEndOf (l : Launch) {X : xsX} {kIsKept kIsStale hiLatest hiSize scLength scFault scAt scNumber piSegmentsNow enKind enFromX enFromY enToX enToY tiMeetingPairs tiAlongPairs tiSize evSize evCrossings evSegmentsNow grEdges grQueued huSize huBestX huBestY : Int32} {scBytes scTold tiTouching tiLyingAlong evBundle evCrossingOf evEventOf evLeftEvent evRightEvent grDegree grFar grQueue huX huY : Nat → Int32} {enX enY enLower : Int64} {evX evY evLower : Nat → Int64} {S : Nat → xsV} {Rw : va_W} {js : Nat} (hjs : js < 12) {sLx sLy sRx sRy sTi : Nat → Int32} {sSz : Int32} (hs_s : S js = (sLx, sLy, sRx, sRy, sTi, sSz)) {a1 : Int32} {out : Int32} (hf : fX0_isAtEndOf enX enY enLower sLx sLy sRx sRy a1 = some out) : Met l yX0_isAtEndOf (xsWs yX0_isAtEndOf cX0_isAtEndOf 3 (some .boolean)) { frames := 0, cells := 0, slots := 0, locals := 0 } (xsP X (wK X kIsKept kIsStale hiLatest hiSize scBytes scTold scLength scFault scAt scNumber piSegmentsNow enKind enX enY enLower enFromX enFromY enToX enToY tiTouching tiLyingAlong tiMeetingPairs tiAlongPairs tiSize evX evY evLower evBundle evCrossingOf evEventOf evLeftEvent evRightEvent evSize evCrossings evSegmentsNow grDegree grEdges grFar grQueue grQueued huX huY huSize huBestX huBestY S Rw) [.ref (xsA X 7), .ref (xsA X (27 + 6 * js)), .int a1]) (xsQi X out (wK X kIsKept kIsStale hiLatest hiSize scBytes scTold scLength scFault scAt scNumber piSegmentsNow enKind enX enY enLower enFromX enFromY enToX enToY tiTouching tiLyingAlong tiMeetingPairs tiAlongPairs tiSize evX evY evLower evBundle evCrossingOf evEventOf evLeftEvent evRightEvent evSize evCrossings evSegmentsNow grDegree grEdges grFar grQueue grQueued huX huY huSize huBestX huBestY S Rw)) 0 0 (xsF X) := by
  refine xs_meth RX0 (by decide) rfl (Nat.le_of_ble_eq_true rfl) ?_
  intro p e s m below meth c ls H locs C hP hD hS hr hlk hl
  have hx := C.1
  have hb := C.2.1
  have hl : lv_has ls 3 [(0, .ref (xsA X 7)), (1, .ref (xsA X (27 + 6 * js))), (2, .int a1)] := hl
  obtain ⟨Qq, hQq⟩ : ∃ Qq, Qq = xsQi X out (wK X kIsKept kIsStale hiLatest hiSize scBytes scTold scLength scFault scAt scNumber piSegmentsNow enKind enX enY enLower enFromX enFromY enToX enToY tiTouching tiLyingAlong tiMeetingPairs tiAlongPairs tiSize evX evY evLower evBundle evCrossingOf evEventOf evLeftEvent evRightEvent evSize evCrossings evSegmentsNow grDegree grEdges grFar grQueue grQueued huX huY huSize huBestX huBestY S Rw) := ⟨_, rfl⟩
  rw [← hQq]
  unfold fX0_isAtEndOf at hf
  refine lv_aload_n hx hb dX0_isAtEndOf_0 rfl (lv_at hl 0 rfl) ?_
  refine xg_X0_37 C hP dX0_isAtEndOf_1 ?_
  refine lv_aload_n hx hb dX0_isAtEndOf_4 rfl (lv_at hl 1 rfl) ?_
  refine xg_X0_30 (j := js) hjs C hP dX0_isAtEndOf_5 ?_
  refine lv_iload_n hx hb dX0_isAtEndOf_8 rfl (lv_at hl 2 rfl) ?_
  replace hf := xsCk_use hf
  obtain ⟨h1, hf⟩ := hf
  refine xl_s0 (j := js) hjs hs_s C hP h1 dX0_isAtEndOf_9 ?_
  refine lv_i2l hx hb dX0_isAtEndOf_10 rfl ?_
  refine lv_aload_n hx hb dX0_isAtEndOf_11 rfl (lv_at hl 0 rfl) ?_
  refine xg_X0_13 C hP dX0_isAtEndOf_12 ?_
  refine lv_lmul hx hb dX0_isAtEndOf_15 ?_
  have K6 : ∀ (hf : fX0_isAtEndOf_J40 enX enY enLower sRx sRy a1 = some out) (H : Heap) (locs : List Loc) (ls : Array Slot), va_P (xsD X) vwCl (wK X kIsKept kIsStale hiLatest hiSize scBytes scTold scLength scFault scAt scNumber piSegmentsNow enKind enX enY enLower enFromX enFromY enToX enToY tiTouching tiLyingAlong tiMeetingPairs tiAlongPairs tiSize evX evY evLower evBundle evCrossingOf evEventOf evLeftEvent evRightEvent evSize evCrossings evSegmentsNow grDegree grEdges grFar grQueue grQueued huX huY huSize huBestX huBestY S Rw) H → va_D (xsF X) (wK X kIsKept kIsStale hiLatest hiSize scBytes scTold scLength scFault scAt scNumber piSegmentsNow enKind enX enY enLower enFromX enFromY enToX enToY tiTouching tiLyingAlong tiMeetingPairs tiAlongPairs tiSize evX evY evLower evBundle evCrossingOf evEventOf evLeftEvent evRightEvent evSize evCrossings evSegmentsNow grDegree grEdges grFar grQueue grQueued huX huY huSize huBestX huBestY S Rw) → va_S (xsF X) s.heap H locs → lv_has ls 3 [(0, .ref (xsA X 7)), (1, .ref (xsA X (27 + 6 * js))), (2, .int a1)] → W p l e { frames := 0, cells := 0, slots := 0, locals := 0 } s m ([.ref (xsA X 7), .ref (xsA X (27 + 6 * js)), .int a1] : List Value).toArray below meth c H locs 0 0 (MQ below Qq ([.ref (xsA X 7), .ref (xsA X (27 + 6 * js)), .int a1] : List Value).toArray s 0 0 (xsF X)) (F0 m 40 ls []) := by
    intro hf H locs ls hP hD hS hl
    unfold fX0_isAtEndOf_J40 at hf
    refine lv_aload_n hx hb dX0_isAtEndOf_40 rfl (lv_at hl 0 rfl) ?_
    refine xg_X0_37 C hP dX0_isAtEndOf_41 ?_
    refine lv_aload_n hx hb dX0_isAtEndOf_44 rfl (lv_at hl 1 rfl) ?_
    refine xg_X0_49 (j := js) hjs C hP dX0_isAtEndOf_45 ?_
    refine lv_iload_n hx hb dX0_isAtEndOf_48 rfl (lv_at hl 2 rfl) ?_
    replace hf := xsCk_use hf
    obtain ⟨h2, hf⟩ := hf
    refine xl_s2 (j := js) hjs hs_s C hP h2 dX0_isAtEndOf_49 ?_
    refine lv_i2l hx hb dX0_isAtEndOf_50 rfl ?_
    refine lv_aload_n hx hb dX0_isAtEndOf_51 rfl (lv_at hl 0 rfl) ?_
    refine xg_X0_13 C hP dX0_isAtEndOf_52 ?_
    refine lv_lmul hx hb dX0_isAtEndOf_55 ?_
    refine xs_lcmp_ne (tgt := 84) C dX0_isAtEndOf_56 dX0_isAtEndOf_57 (by decide) (fun c5 => ?_) (fun c5 => ?_)
    · replace hf := xsBr_f c5 hf
      refine lv_iconst (v := (0 : Int32)) hx hb dX0_isAtEndOf_84 (by decide) ?_
      have ho := Option.some.inj hf
      subst ho
      rw [hQq]
      exact xs_zret C hr hlk xsB_0 hP hD hS dX0_isAtEndOf_85
    · replace hf := xsBr_t c5 hf
      refine lv_aload_n hx hb dX0_isAtEndOf_60 rfl (lv_at hl 0 rfl) ?_
      refine xg_X0_40 C hP dX0_isAtEndOf_61 ?_
      refine lv_aload_n hx hb dX0_isAtEndOf_64 rfl (lv_at hl 1 rfl) ?_
      refine xg_X0_52 (j := js) hjs C hP dX0_isAtEndOf_65 ?_
      refine lv_iload_n hx hb dX0_isAtEndOf_68 rfl (lv_at hl 2 rfl) ?_
      replace hf := xsCk_use hf
      obtain ⟨h3, hf⟩ := hf
      refine xl_s3 (j := js) hjs hs_s C hP h3 dX0_isAtEndOf_69 ?_
      refine lv_i2l hx hb dX0_isAtEndOf_70 rfl ?_
      refine lv_aload_n hx hb dX0_isAtEndOf_71 rfl (lv_at hl 0 rfl) ?_
      refine xg_X0_13 C hP dX0_isAtEndOf_72 ?_
      refine lv_lmul hx hb dX0_isAtEndOf_75 ?_
      refine xs_lcmp_ne (tgt := 84) C dX0_isAtEndOf_76 dX0_isAtEndOf_77 (by decide) (fun c4 => ?_) (fun c4 => ?_)
      · replace hf := xsBr_f c4 hf
        refine lv_iconst (v := (0 : Int32)) hx hb dX0_isAtEndOf_84 (by decide) ?_
        have ho := Option.some.inj hf
        subst ho
        rw [hQq]
        exact xs_zret C hr hlk xsB_0 hP hD hS dX0_isAtEndOf_85
      · replace hf := xsBr_t c4 hf
        refine lv_iconst (v := (1 : Int32)) hx hb dX0_isAtEndOf_80 (by decide) ?_
        refine lv_goto (tgt := 85) hx hb dX0_isAtEndOf_81 (by decide) ?_
        have ho := Option.some.inj hf
        subst ho
        rw [hQq]
        exact xs_zret C hr hlk xsB_1 hP hD hS dX0_isAtEndOf_85
  refine xs_lcmp_ne (tgt := 40) C dX0_isAtEndOf_16 dX0_isAtEndOf_17 (by decide) (fun c9 => ?_) (fun c9 => ?_)
  · replace hf := xsBr_f c9 hf
    exact K6 hf H locs ls hP hD hS (lv_sub hl [0, 1, 2] rfl)
  · replace hf := xsBr_t c9 hf
    refine lv_aload_n hx hb dX0_isAtEndOf_20 rfl (lv_at hl 0 rfl) ?_
    refine xg_X0_40 C hP dX0_isAtEndOf_21 ?_
    refine lv_aload_n hx hb dX0_isAtEndOf_24 rfl (lv_at hl 1 rfl) ?_
    refine xg_X0_34 (j := js) hjs C hP dX0_isAtEndOf_25 ?_
    refine lv_iload_n hx hb dX0_isAtEndOf_28 rfl (lv_at hl 2 rfl) ?_
    replace hf := xsCk_use hf
    obtain ⟨h7, hf⟩ := hf
    refine xl_s1 (j := js) hjs hs_s C hP h7 dX0_isAtEndOf_29 ?_
    refine lv_i2l hx hb dX0_isAtEndOf_30 rfl ?_
    refine lv_aload_n hx hb dX0_isAtEndOf_31 rfl (lv_at hl 0 rfl) ?_
    refine xg_X0_13 C hP dX0_isAtEndOf_32 ?_
    refine lv_lmul hx hb dX0_isAtEndOf_35 ?_
    refine xs_lcmp_eq (tgt := 80) C dX0_isAtEndOf_36 dX0_isAtEndOf_37 (by decide) (fun c8 => ?_) (fun c8 => ?_)
    · replace hf := xsBr_t c8 hf
      refine lv_iconst (v := (1 : Int32)) hx hb dX0_isAtEndOf_80 (by decide) ?_
      refine lv_goto (tgt := 85) hx hb dX0_isAtEndOf_81 (by decide) ?_
      have ho := Option.some.inj hf
      subst ho
      rw [hQq]
      exact xs_zret C hr hlk xsB_1 hP hD hS dX0_isAtEndOf_85
    · replace hf := xsBr_f c8 hf
      exact K6 hf H locs ls hP hD hS (lv_sub hl [0, 1, 2] rfl)
