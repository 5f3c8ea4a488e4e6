section XSLB
variable {p : Program} {l : Launch} {e : Env} {R : Room} {s : State} {m : MethodId} {args : Array Value} {below : List Frame} {meth : Method} {c : Code} {H : Heap} {locs : List Loc} {cells slots mc ms C0 D0 b L nL nM n pc index : Nat} {Q : State → Prop} {xs : Nat → Int32}
variable {cc bb : ByteArray} {ls : Array Slot} {rest st As : List Value} {own : String} {X : xsX} {w : va_W} {y : MethodName} {ret : Option FieldType} {rm : Room} {Qc : Array Value → State → Outcome → State → Prop} {XC : String → State → State → Prop} {S : Nat → xsV} {Rw : va_W}
variable {kIsKept kIsStale hiLatest hiSize scLength scFault scAt scNumber piSegmentsNow enKind enFromX enFromY enToX enToY tiMeetingPairs tiAlongPairs tiSize evSize evCrossings evSegmentsNow grEdges grQueued huSize huBestX huBestY : Int32} {scBytes scTold tiTouching tiLyingAlong evBundle evCrossingOf evEventOf evLeftEvent evRightEvent grDegree grFar grQueue huX huY : Nat → Int32} {enX enY enLower : Int64} {evX evY evLower : Nat → Int64} {mThrown mRemembered mHasImage mIsLaid mEvents mCrossings mEdges mTaped mPoint mEnd mBegin mFaultAt mActs : Int32} {mWorld mImage mDraft mEarlier mOne mTwo mShare mCrossingOf mBundle mEventOf mDegree mFrom mTo mMet mTape mFive mTold mFar mViews mHullX mHullY mEndX mEndY mMeets mMeetsOf : Nat → Int32} {mX mY mD mHeightUp mHeightLow : Int64} {mEventX mEventY mEventD mUpper mLower : Nat → Int64} {ou : Nat → Int64}
set_option maxRecDepth 100000 in
set_option maxHeartbeats 8000000 in
theorem lc_road {Rl : xsRel} (l : Launch) (hst : l.stackTraces = false) (hp : pc_road Rl) {i v1 v2 v3 v4 v5 : Int32} (C : xsC p s m c cL_law #[.ref b] RL 8 X) (hX : va_X b L xs s s.heap) (hbz : b < xsZ X) (hbl : b < s.heap.size) (hi1 : vp_in (i + 1) L ∧ xs (i + 1).toNatClampNeg = v1) (hi2 : vp_in (i + 2) L ∧ xs (i + 2).toNatClampNeg = v2) (hi3 : vp_in (i + 3) L ∧ xs (i + 3).toNatClampNeg = v3) (hi4 : vp_in (i + 4) L ∧ xs (i + 4).toNatClampNeg = v4) (hi5 : vp_in (i + 5) L ∧ xs (i + 5).toNatClampNeg = v5) (hcs : xsRmC C0 D0) (hP : va_P (xsD X) vwCl (wK X kIsKept kIsStale hiLatest hiSize scBytes scTold scLength scFault scAt scNumber piSegmentsNow enKind enX enY enLower enFromX enFromY enToX enToY tiTouching tiLyingAlong tiMeetingPairs tiAlongPairs tiSize evX evY evLower evBundle evCrossingOf evEventOf evLeftEvent evRightEvent evSize evCrossings evSegmentsNow grDegree grEdges grFar grQueue grQueued huX huY huSize huBestX huBestY S (xsOc X ou :: wM X mThrown mWorld mImage mDraft mEarlier mRemembered mHasImage mIsLaid mOne mTwo mShare mX mY mD mEventX mEventY mEventD mEvents mCrossingOf mBundle mEventOf mDegree mFrom mTo mCrossings mEdges mMet mUpper mLower mTape mTaped mPoint mEnd mBegin mFaultAt mFive mTold mActs mFar mViews mHullX mHullY mEndX mEndY mHeightUp mHeightLow mMeets mMeetsOf [])) H) (hD : va_D (xsF X) (wK X kIsKept kIsStale hiLatest hiSize scBytes scTold scLength scFault scAt scNumber piSegmentsNow enKind enX enY enLower enFromX enFromY enToX enToY tiTouching tiLyingAlong tiMeetingPairs tiAlongPairs tiSize evX evY evLower evBundle evCrossingOf evEventOf evLeftEvent evRightEvent evSize evCrossings evSegmentsNow grDegree grEdges grFar grQueue grQueued huX huY huSize huBestX huBestY S (xsOc X ou :: wM X mThrown mWorld mImage mDraft mEarlier mRemembered mHasImage mIsLaid mOne mTwo mShare mX mY mD mEventX mEventY mEventD mEvents mCrossingOf mBundle mEventOf mDegree mFrom mTo mCrossings mEdges mMet mUpper mLower mTape mTaped mPoint mEnd mBegin mFaultAt mFive mTold mActs mFar mViews mHullX mHullY mEndX mEndY mHeightUp mHeightLow mMeets mMeetsOf []))) (hS : va_S (xsF X) s.heap H locs) (hl : lv_has ls 8 [(4, .int i), (3, .ref (xsA X 131)), (2, .ref (xsA X 100)), (1, .ref (xsA X 0)), (0, .ref b)]) (hR : Rl kIsKept kIsStale hiLatest hiSize scBytes scTold scLength scFault scAt scNumber piSegmentsNow enKind enX enY enLower enFromX enFromY enToX enToY tiTouching tiLyingAlong tiMeetingPairs tiAlongPairs tiSize evX evY evLower evBundle evCrossingOf evEventOf evLeftEvent evRightEvent evSize evCrossings evSegmentsNow grDegree grEdges grFar grQueue grQueued huX huY huSize huBestX huBestY S mThrown mWorld mImage mDraft mEarlier mRemembered mHasImage mIsLaid mOne mTwo mShare mX mY mD mEventX mEventY mEventD mEvents mCrossingOf mBundle mEventOf mDegree mFrom mTo mCrossings mEdges mMet mUpper mLower mTape mTaped mPoint mEnd mBegin mFaultAt mFive mTold mActs mFar mViews mHullX mHullY mEndX mEndY mHeightUp mHeightLow mMeets mMeetsOf)
    (kk : ∀ {kIsKept kIsStale hiLatest hiSize scLength scFault scAt scNumber piSegmentsNow enKind enFromX enFromY enToX enToY tiMeetingPairs tiAlongPairs tiSize evSize evCrossings evSegmentsNow grEdges grQueued huSize huBestX huBestY : Int32} {scBytes scTold tiTouching tiLyingAlong evBundle evCrossingOf evEventOf evLeftEvent evRightEvent grDegree grFar grQueue huX huY : Nat → Int32} {enX enY enLower : Int64} {evX evY evLower : Nat → Int64} {S : Nat → xsV} {mThrown mRemembered mHasImage mIsLaid mEvents mCrossings mEdges mTaped mPoint mEnd mBegin mFaultAt mActs : Int32} {mWorld mImage mDraft mEarlier mOne mTwo mShare mCrossingOf mBundle mEventOf mDegree mFrom mTo mMet mTape mFive mTold mFar mViews mHullX mHullY mEndX mEndY mMeets mMeetsOf : Nat → Int32} {mX mY mD mHeightUp mHeightLow : Int64} {mEventX mEventY mEventD mUpper mLower : Nat → Int64} {ou : Nat → Int64} {ls : Array Slot} {H : Heap} {locs : List Loc}, Rl kIsKept kIsStale hiLatest hiSize scBytes scTold scLength scFault scAt scNumber piSegmentsNow enKind enX enY enLower enFromX enFromY enToX enToY tiTouching tiLyingAlong tiMeetingPairs tiAlongPairs tiSize evX evY evLower evBundle evCrossingOf evEventOf evLeftEvent evRightEvent evSize evCrossings evSegmentsNow grDegree grEdges grFar grQueue grQueued huX huY huSize huBestX huBestY S mThrown mWorld mImage mDraft mEarlier mRemembered mHasImage mIsLaid mOne mTwo mShare mX mY mD mEventX mEventY mEventD mEvents mCrossingOf mBundle mEventOf mDegree mFrom mTo mCrossings mEdges mMet mUpper mLower mTape mTaped mPoint mEnd mBegin mFaultAt mFive mTold mActs mFar mViews mHullX mHullY mEndX mEndY mHeightUp mHeightLow mMeets mMeetsOf → va_P (xsD X) vwCl (wK X kIsKept kIsStale hiLatest hiSize scBytes scTold scLength scFault scAt scNumber piSegmentsNow enKind enX enY enLower enFromX enFromY enToX enToY tiTouching tiLyingAlong tiMeetingPairs tiAlongPairs tiSize evX evY evLower evBundle evCrossingOf evEventOf evLeftEvent evRightEvent evSize evCrossings evSegmentsNow grDegree grEdges grFar grQueue grQueued huX huY huSize huBestX huBestY S (xsOc X ou :: wM X mThrown mWorld mImage mDraft mEarlier mRemembered mHasImage mIsLaid mOne mTwo mShare mX mY mD mEventX mEventY mEventD mEvents mCrossingOf mBundle mEventOf mDegree mFrom mTo mCrossings mEdges mMet mUpper mLower mTape mTaped mPoint mEnd mBegin mFaultAt mFive mTold mActs mFar mViews mHullX mHullY mEndX mEndY mHeightUp mHeightLow mMeets mMeetsOf [])) H → va_D (xsF X) (wK X kIsKept kIsStale hiLatest hiSize scBytes scTold scLength scFault scAt scNumber piSegmentsNow enKind enX enY enLower enFromX enFromY enToX enToY tiTouching tiLyingAlong tiMeetingPairs tiAlongPairs tiSize evX evY evLower evBundle evCrossingOf evEventOf evLeftEvent evRightEvent evSize evCrossings evSegmentsNow grDegree grEdges grFar grQueue grQueued huX huY huSize huBestX huBestY S (xsOc X ou :: wM X mThrown mWorld mImage mDraft mEarlier mRemembered mHasImage mIsLaid mOne mTwo mShare mX mY mD mEventX mEventY mEventD mEvents mCrossingOf mBundle mEventOf mDegree mFrom mTo mCrossings mEdges mMet mUpper mLower mTape mTaped mPoint mEnd mBegin mFaultAt mFive mTold mActs mFar mViews mHullX mHullY mEndX mEndY mHeightUp mHeightLow mMeets mMeetsOf [])) → va_S (xsF X) s.heap H locs → lv_has ls 8 [(4, .int i), (3, .ref (xsA X 131)), (2, .ref (xsA X 100)), (1, .ref (xsA X 0)), (0, .ref b)] → W p l e room_1 s m #[.ref b] below meth c H locs (C0 + 5) (D0 + 30) Q (F0 m 2175 ls [])) :
    W p l e room_1 s m #[.ref b] below meth c H locs C0 D0 Q (F0 m 1273 ls []) := by
  have hx := C.1
  have hb := C.2.1
  obtain ⟨out, mo, ef, em, hor⟩ := hp hR v1 v2
  rcases hor with ⟨tt, eo, ea, et, hR⟩ | ⟨n, tt, eo, en, et, hR⟩
  · subst eo
    refine lv_aload_n hx hb dL_law_1273 rfl (lv_at hl 3 rfl) ?_
    refine lv_aload_n hx hb dL_law_1274 rfl (lv_at hl 4 rfl) ?_
    refine lv_iload hx hb dL_law_1275 (lv_at hl 0 rfl) ?_
    refine lv_iconst (v := (1 : Int32)) hx hb dL_law_1277 (by decide) ?_
    refine lv_iadd hx hb dL_law_1278 ?_
    refine xs_lld C hX hbz hbl hS hi1 dL_law_1279 ?_
    refine lv_aload_n hx hb dL_law_1280 rfl (lv_at hl 4 rfl) ?_
    refine lv_iload hx hb dL_law_1281 (lv_at hl 0 rfl) ?_
    refine lv_iconst (v := (2 : Int32)) hx hb dL_law_1283 (by decide) ?_
    refine lv_iadd hx hb dL_law_1284 ?_
    refine xs_lld C hX hbz hbl hS hi2 dL_law_1285 ?_
    refine lv_aload_n hx hb dL_law_1286 rfl (lv_at hl 1 rfl) ?_
    refine xs_lcalli hS (xs_lrunS (As := [.ref (xsA X 0), .int v1, .int v2, .ref (xsA X 131)]) (rest := []) C (mL_road l hst (xs_eta (S 0)) ef (fun n tt h => by cases h)) w_1205 w_1206 w_104 w_1207 hd_L_road (xsRmL hcs (by decide) (by decide) (by decide) (by decide)) hP hD hS hl.1 rfl (Nat.le_of_ble_eq_true rfl) dL_law_1287) (fun r u H locs hq hP hD hS => ?_)
    rcases hq with ⟨tx, e1, e2, e3⟩ | ⟨n, tx, e1, e2, e3⟩
    · cases e1
      subst e3
      subst e2
      refine lv_istore (lv' := [(5, .int 0), (4, .int i), (3, .ref (xsA X 131)), (2, .ref (xsA X 100)), (1, .ref (xsA X 0)), (0, .ref b)]) hx hb dL_law_1290 hl (by decide) rfl (fun ls hl => ?_)
      refine lv_aload_n hx hb dL_law_1292 rfl (lv_at hl 3 rfl) ?_
      refine lv_aload_n hx hb dL_law_1293 rfl (lv_at hl 5 rfl) ?_
      refine lv_iload hx hb dL_law_1294 (lv_at hl 1 rfl) ?_
      refine lv_iconst (v := (1 : Int32)) hx hb dL_law_1296 (by decide) ?_
      refine lv_iadd hx hb dL_law_1297 ?_
      refine xs_lld C hX hbz hbl hS hi1 dL_law_1298 ?_
      refine lv_aload_n hx hb dL_law_1299 rfl (lv_at hl 5 rfl) ?_
      refine lv_iload hx hb dL_law_1300 (lv_at hl 1 rfl) ?_
      refine lv_iconst (v := (2 : Int32)) hx hb dL_law_1302 (by decide) ?_
      refine lv_iadd hx hb dL_law_1303 ?_
      refine xs_lld C hX hbz hbl hS hi2 dL_law_1304 ?_
      replace hP := xs_toM hP
      replace hD := xs_toMD hD
      refine xs_calli hS (xs_runV (As := [.int v1, .int v2]) (rest := []) C (mX11_road l em) w_1847 w_1848 w_1849 w_115 w_1850 hd_X11_road (xsRmB hcs (by decide) (by decide) (by decide) (by decide)) hP hD hS lk_X11 rfl hl.1 rfl (Nat.le_of_ble_eq_true rfl) dL_law_1305) (fun H locs hP hD hS => ?_)
      refine lv_istore (lv' := [(6, .int mo.1), (5, .int 0), (4, .int i), (3, .ref (xsA X 131)), (2, .ref (xsA X 100)), (1, .ref (xsA X 0)), (0, .ref b)]) hx hb dL_law_1308 hl (by decide) rfl (fun ls hl => ?_)
      refine lv_aload_n hx hb dL_law_1310 rfl (lv_at hl 4 rfl) ?_
      refine xs_calli hS (xs_runV (As := []) (rest := []) C (mX11_thrown l rfl) w_1343 w_1344 w_1345 w_115 w_1346 hd_X11_thrown (xsRmB hcs (by decide) (by decide) (by decide) (by decide)) hP hD hS lk_X11 rfl hl.1 rfl (Nat.le_of_ble_eq_true rfl) dL_law_1311) (fun H locs hP hD hS => ?_)
      replace hP := xs_toK hP
      replace hD := xs_toKD hD
      refine lv_iload hx hb dL_law_1314 (lv_at hl 1 rfl) ?_
      refine lv_icmp_eq (tgt := 1321) hx hb dL_law_1316 (by decide) (fun _ => ?_) (fun q => absurd et q)
      refine lv_iload hx hb dL_law_1321 (lv_at hl 1 rfl) ?_
      refine lv_if_ne (tgt := 1338) hx hb dL_law_1323 (by decide) (fun q => absurd rfl q) (fun _ => ?_)
      refine lv_aload_n hx hb dL_law_1326 rfl (lv_at hl 3 rfl) ?_
      refine lv_iconst (v := (0 : Int32)) hx hb dL_law_1327 (by decide) ?_
      refine xs_lald C hP (q0 := 99) rfl (vp_in_nI (n := 0) (by decide) (by decide)) dL_law_1328 ?_
      refine lv_iload hx hb dL_law_1329 (lv_at hl 0 rfl) ?_
      refine lv_i2l hx hb dL_law_1331 rfl ?_
      refine xs_lcmp_eq (tgt := 1338) C dL_law_1332 dL_law_1333 (by decide) (fun _ => ?_) (fun q => absurd (xs_ou0 (congrArg Int32.toInt64 ea)) q)
      refine lv_goto (tgt := 2175) hx hb dL_law_1338 (by decide) ?_
      exact W.widen (Nat.add_le_add_left (by decide) _) (Nat.add_le_add_left (by decide) _) (kk hR hP hD hS (lv_sub hl [2, 3, 4, 5, 6] rfl))
    · cases e1
  · subst eo
    refine lv_aload_n hx hb dL_law_1273 rfl (lv_at hl 3 rfl) ?_
    refine lv_aload_n hx hb dL_law_1274 rfl (lv_at hl 4 rfl) ?_
    refine lv_iload hx hb dL_law_1275 (lv_at hl 0 rfl) ?_
    refine lv_iconst (v := (1 : Int32)) hx hb dL_law_1277 (by decide) ?_
    refine lv_iadd hx hb dL_law_1278 ?_
    refine xs_lld C hX hbz hbl hS hi1 dL_law_1279 ?_
    refine lv_aload_n hx hb dL_law_1280 rfl (lv_at hl 4 rfl) ?_
    refine lv_iload hx hb dL_law_1281 (lv_at hl 0 rfl) ?_
    refine lv_iconst (v := (2 : Int32)) hx hb dL_law_1283 (by decide) ?_
    refine lv_iadd hx hb dL_law_1284 ?_
    refine xs_lld C hX hbz hbl hS hi2 dL_law_1285 ?_
    refine lv_aload_n hx hb dL_law_1286 rfl (lv_at hl 1 rfl) ?_
    refine xs_lcalli hS (xs_lrunS (As := [.ref (xsA X 0), .int v1, .int v2, .ref (xsA X 131)]) (rest := []) C (mL_road l hst (xs_eta (S 0)) ef (fun n2 t2 h => by cases h; exact en)) w_1205 w_1206 w_104 w_1207 hd_L_road (xsRmL hcs (by decide) (by decide) (by decide) (by decide)) hP hD hS hl.1 rfl (Nat.le_of_ble_eq_true rfl) dL_law_1287) (fun r u H locs hq hP hD hS => ?_)
    rcases hq with ⟨tx, e1, e2, e3⟩ | ⟨n2, tx, e1, e2, e3⟩
    · cases e1
    · cases e1
      subst e3
      have ekn : ¬ r = 0 := by rw [e2]; rw [en]; decide
      replace et := et.trans e2.symm
      refine lv_istore (lv' := [(5, .int r), (4, .int i), (3, .ref (xsA X 131)), (2, .ref (xsA X 100)), (1, .ref (xsA X 0)), (0, .ref b)]) hx hb dL_law_1290 hl (by decide) rfl (fun ls hl => ?_)
      refine lv_aload_n hx hb dL_law_1292 rfl (lv_at hl 3 rfl) ?_
      refine lv_aload_n hx hb dL_law_1293 rfl (lv_at hl 5 rfl) ?_
      refine lv_iload hx hb dL_law_1294 (lv_at hl 1 rfl) ?_
      refine lv_iconst (v := (1 : Int32)) hx hb dL_law_1296 (by decide) ?_
      refine lv_iadd hx hb dL_law_1297 ?_
      refine xs_lld C hX hbz hbl hS hi1 dL_law_1298 ?_
      refine lv_aload_n hx hb dL_law_1299 rfl (lv_at hl 5 rfl) ?_
      refine lv_iload hx hb dL_law_1300 (lv_at hl 1 rfl) ?_
      refine lv_iconst (v := (2 : Int32)) hx hb dL_law_1302 (by decide) ?_
      refine lv_iadd hx hb dL_law_1303 ?_
      refine xs_lld C hX hbz hbl hS hi2 dL_law_1304 ?_
      replace hP := xs_toM hP
      replace hD := xs_toMD hD
      refine xs_calli hS (xs_runV (As := [.int v1, .int v2]) (rest := []) C (mX11_road l em) w_1847 w_1848 w_1849 w_115 w_1850 hd_X11_road (xsRmB hcs (by decide) (by decide) (by decide) (by decide)) hP hD hS lk_X11 rfl hl.1 rfl (Nat.le_of_ble_eq_true rfl) dL_law_1305) (fun H locs hP hD hS => ?_)
      refine lv_istore (lv' := [(6, .int mo.1), (5, .int r), (4, .int i), (3, .ref (xsA X 131)), (2, .ref (xsA X 100)), (1, .ref (xsA X 0)), (0, .ref b)]) hx hb dL_law_1308 hl (by decide) rfl (fun ls hl => ?_)
      refine lv_aload_n hx hb dL_law_1310 rfl (lv_at hl 4 rfl) ?_
      refine xs_calli hS (xs_runV (As := []) (rest := []) C (mX11_thrown l rfl) w_1343 w_1344 w_1345 w_115 w_1346 hd_X11_thrown (xsRmB hcs (by decide) (by decide) (by decide) (by decide)) hP hD hS lk_X11 rfl hl.1 rfl (Nat.le_of_ble_eq_true rfl) dL_law_1311) (fun H locs hP hD hS => ?_)
      replace hP := xs_toK hP
      replace hD := xs_toKD hD
      refine lv_iload hx hb dL_law_1314 (lv_at hl 1 rfl) ?_
      refine lv_icmp_eq (tgt := 1321) hx hb dL_law_1316 (by decide) (fun _ => ?_) (fun q => absurd et q)
      refine lv_iload hx hb dL_law_1321 (lv_at hl 1 rfl) ?_
      refine lv_if_ne (tgt := 1338) hx hb dL_law_1323 (by decide) (fun _ => ?_) (fun q => absurd q (ekn))
      refine lv_goto (tgt := 2175) hx hb dL_law_1338 (by decide) ?_
      exact W.widen (Nat.add_le_add_left (by decide) _) (Nat.add_le_add_left (by decide) _) (kk hR hP hD hS (lv_sub hl [2, 3, 4, 5, 6] rfl))
set_option maxRecDepth 100000 in
set_option maxHeartbeats 8000000 in
theorem lc_view {Rl : xsRel} (l : Launch) (hst : l.stackTraces = false) (hp : pc_view Rl) {i v1 v2 v3 v4 v5 : Int32} (C : xsC p s m c cL_law #[.ref b] RL 8 X) (hX : va_X b L xs s s.heap) (hbz : b < xsZ X) (hbl : b < s.heap.size) (hi1 : vp_in (i + 1) L ∧ xs (i + 1).toNatClampNeg = v1) (hi2 : vp_in (i + 2) L ∧ xs (i + 2).toNatClampNeg = v2) (hi3 : vp_in (i + 3) L ∧ xs (i + 3).toNatClampNeg = v3) (hi4 : vp_in (i + 4) L ∧ xs (i + 4).toNatClampNeg = v4) (hi5 : vp_in (i + 5) L ∧ xs (i + 5).toNatClampNeg = v5) (hcs : xsRmC C0 D0) (hP : va_P (xsD X) vwCl (wK X kIsKept kIsStale hiLatest hiSize scBytes scTold scLength scFault scAt scNumber piSegmentsNow enKind enX enY enLower enFromX enFromY enToX enToY tiTouching tiLyingAlong tiMeetingPairs tiAlongPairs tiSize evX evY evLower evBundle evCrossingOf evEventOf evLeftEvent evRightEvent evSize evCrossings evSegmentsNow grDegree grEdges grFar grQueue grQueued huX huY huSize huBestX huBestY S (xsOc X ou :: wM X mThrown mWorld mImage mDraft mEarlier mRemembered mHasImage mIsLaid mOne mTwo mShare mX mY mD mEventX mEventY mEventD mEvents mCrossingOf mBundle mEventOf mDegree mFrom mTo mCrossings mEdges mMet mUpper mLower mTape mTaped mPoint mEnd mBegin mFaultAt mFive mTold mActs mFar mViews mHullX mHullY mEndX mEndY mHeightUp mHeightLow mMeets mMeetsOf [])) H) (hD : va_D (xsF X) (wK X kIsKept kIsStale hiLatest hiSize scBytes scTold scLength scFault scAt scNumber piSegmentsNow enKind enX enY enLower enFromX enFromY enToX enToY tiTouching tiLyingAlong tiMeetingPairs tiAlongPairs tiSize evX evY evLower evBundle evCrossingOf evEventOf evLeftEvent evRightEvent evSize evCrossings evSegmentsNow grDegree grEdges grFar grQueue grQueued huX huY huSize huBestX huBestY S (xsOc X ou :: wM X mThrown mWorld mImage mDraft mEarlier mRemembered mHasImage mIsLaid mOne mTwo mShare mX mY mD mEventX mEventY mEventD mEvents mCrossingOf mBundle mEventOf mDegree mFrom mTo mCrossings mEdges mMet mUpper mLower mTape mTaped mPoint mEnd mBegin mFaultAt mFive mTold mActs mFar mViews mHullX mHullY mEndX mEndY mHeightUp mHeightLow mMeets mMeetsOf []))) (hS : va_S (xsF X) s.heap H locs) (hl : lv_has ls 8 [(4, .int i), (3, .ref (xsA X 131)), (2, .ref (xsA X 100)), (1, .ref (xsA X 0)), (0, .ref b)]) (hR : Rl kIsKept kIsStale hiLatest hiSize scBytes scTold scLength scFault scAt scNumber piSegmentsNow enKind enX enY enLower enFromX enFromY enToX enToY tiTouching tiLyingAlong tiMeetingPairs tiAlongPairs tiSize evX evY evLower evBundle evCrossingOf evEventOf evLeftEvent evRightEvent evSize evCrossings evSegmentsNow grDegree grEdges grFar grQueue grQueued huX huY huSize huBestX huBestY S mThrown mWorld mImage mDraft mEarlier mRemembered mHasImage mIsLaid mOne mTwo mShare mX mY mD mEventX mEventY mEventD mEvents mCrossingOf mBundle mEventOf mDegree mFrom mTo mCrossings mEdges mMet mUpper mLower mTape mTaped mPoint mEnd mBegin mFaultAt mFive mTold mActs mFar mViews mHullX mHullY mEndX mEndY mHeightUp mHeightLow mMeets mMeetsOf)
    (kk : ∀ {kIsKept kIsStale hiLatest hiSize scLength scFault scAt scNumber piSegmentsNow enKind enFromX enFromY enToX enToY tiMeetingPairs tiAlongPairs tiSize evSize evCrossings evSegmentsNow grEdges grQueued huSize huBestX huBestY : Int32} {scBytes scTold tiTouching tiLyingAlong evBundle evCrossingOf evEventOf evLeftEvent evRightEvent grDegree grFar grQueue huX huY : Nat → Int32} {enX enY enLower : Int64} {evX evY evLower : Nat → Int64} {S : Nat → xsV} {mThrown mRemembered mHasImage mIsLaid mEvents mCrossings mEdges mTaped mPoint mEnd mBegin mFaultAt mActs : Int32} {mWorld mImage mDraft mEarlier mOne mTwo mShare mCrossingOf mBundle mEventOf mDegree mFrom mTo mMet mTape mFive mTold mFar mViews mHullX mHullY mEndX mEndY mMeets mMeetsOf : Nat → Int32} {mX mY mD mHeightUp mHeightLow : Int64} {mEventX mEventY mEventD mUpper mLower : Nat → Int64} {ou : Nat → Int64} {ls : Array Slot} {H : Heap} {locs : List Loc}, Rl kIsKept kIsStale hiLatest hiSize scBytes scTold scLength scFault scAt scNumber piSegmentsNow enKind enX enY enLower enFromX enFromY enToX enToY tiTouching tiLyingAlong tiMeetingPairs tiAlongPairs tiSize evX evY evLower evBundle evCrossingOf evEventOf evLeftEvent evRightEvent evSize evCrossings evSegmentsNow grDegree grEdges grFar grQueue grQueued huX huY huSize huBestX huBestY S mThrown mWorld mImage mDraft mEarlier mRemembered mHasImage mIsLaid mOne mTwo mShare mX mY mD mEventX mEventY mEventD mEvents mCrossingOf mBundle mEventOf mDegree mFrom mTo mCrossings mEdges mMet mUpper mLower mTape mTaped mPoint mEnd mBegin mFaultAt mFive mTold mActs mFar mViews mHullX mHullY mEndX mEndY mHeightUp mHeightLow mMeets mMeetsOf → va_P (xsD X) vwCl (wK X kIsKept kIsStale hiLatest hiSize scBytes scTold scLength scFault scAt scNumber piSegmentsNow enKind enX enY enLower enFromX enFromY enToX enToY tiTouching tiLyingAlong tiMeetingPairs tiAlongPairs tiSize evX evY evLower evBundle evCrossingOf evEventOf evLeftEvent evRightEvent evSize evCrossings evSegmentsNow grDegree grEdges grFar grQueue grQueued huX huY huSize huBestX huBestY S (xsOc X ou :: wM X mThrown mWorld mImage mDraft mEarlier mRemembered mHasImage mIsLaid mOne mTwo mShare mX mY mD mEventX mEventY mEventD mEvents mCrossingOf mBundle mEventOf mDegree mFrom mTo mCrossings mEdges mMet mUpper mLower mTape mTaped mPoint mEnd mBegin mFaultAt mFive mTold mActs mFar mViews mHullX mHullY mEndX mEndY mHeightUp mHeightLow mMeets mMeetsOf [])) H → va_D (xsF X) (wK X kIsKept kIsStale hiLatest hiSize scBytes scTold scLength scFault scAt scNumber piSegmentsNow enKind enX enY enLower enFromX enFromY enToX enToY tiTouching tiLyingAlong tiMeetingPairs tiAlongPairs tiSize evX evY evLower evBundle evCrossingOf evEventOf evLeftEvent evRightEvent evSize evCrossings evSegmentsNow grDegree grEdges grFar grQueue grQueued huX huY huSize huBestX huBestY S (xsOc X ou :: wM X mThrown mWorld mImage mDraft mEarlier mRemembered mHasImage mIsLaid mOne mTwo mShare mX mY mD mEventX mEventY mEventD mEvents mCrossingOf mBundle mEventOf mDegree mFrom mTo mCrossings mEdges mMet mUpper mLower mTape mTaped mPoint mEnd mBegin mFaultAt mFive mTold mActs mFar mViews mHullX mHullY mEndX mEndY mHeightUp mHeightLow mMeets mMeetsOf [])) → va_S (xsF X) s.heap H locs → lv_has ls 8 [(4, .int i), (3, .ref (xsA X 131)), (2, .ref (xsA X 100)), (1, .ref (xsA X 0)), (0, .ref b)] → W p l e room_1 s m #[.ref b] below meth c H locs (C0 + 5) (D0 + 30) Q (F0 m 2175 ls [])) :
    W p l e room_1 s m #[.ref b] below meth c H locs C0 D0 Q (F0 m 1341 ls []) := by
  have hx := C.1
  have hb := C.2.1
  obtain ⟨out, mo, ef, em, hor⟩ := hp hR v1
  refine lv_aload_n hx hb dL_law_1341 rfl (lv_at hl 3 rfl) ?_
  refine lv_aload_n hx hb dL_law_1342 rfl (lv_at hl 4 rfl) ?_
  refine lv_iload hx hb dL_law_1343 (lv_at hl 0 rfl) ?_
  refine lv_iconst (v := (1 : Int32)) hx hb dL_law_1345 (by decide) ?_
  refine lv_iadd hx hb dL_law_1346 ?_
  refine xs_lld C hX hbz hbl hS hi1 dL_law_1347 ?_
  refine xs_calli hS (xs_runV (As := [.int v1]) (rest := []) C (mX10_view l (xs_eta (S 0)) ef) w_622 w_623 w_624 w_105 w_625 hd_X10_view (xsRmA hcs (by decide) (by decide)) hP hD hS lk_X10 rfl hl.1 rfl (Nat.le_of_ble_eq_true rfl) dL_law_1348) (fun H locs hP hD hS => ?_)
  replace hP := xs_toM hP
  replace hD := xs_toMD hD
  refine lv_aload_n hx hb dL_law_1351 rfl (lv_at hl 2 rfl) ?_
  refine lv_aload_n hx hb dL_law_1352 rfl (lv_at hl 4 rfl) ?_
  refine lv_iload hx hb dL_law_1353 (lv_at hl 0 rfl) ?_
  refine lv_iconst (v := (1 : Int32)) hx hb dL_law_1355 (by decide) ?_
  refine lv_iadd hx hb dL_law_1356 ?_
  refine xs_lld C hX hbz hbl hS hi1 dL_law_1357 ?_
  refine xs_calli hS (xs_runV (As := [.int v1]) (rest := [.int out.1]) C (mX11_view l em) w_1851 w_1852 w_1853 w_115 w_1854 hd_X11_view (xsRmA hcs (by decide) (by decide)) hP hD hS lk_X11 rfl hl.1 rfl (Nat.le_of_ble_eq_true rfl) dL_law_1358) (fun H locs hP hD hS => ?_)
  replace hP := xs_toK hP
  replace hD := xs_toKD hD
  refine lv_icmp_eq (tgt := 2175) hx hb dL_law_1361 (by decide) (fun _ => ?_) (fun q => absurd hor.1 q)
  exact W.widen (Nat.le_add_right _ _) (Nat.le_add_right _ _) (kk hor.2 hP hD hS hl)
set_option maxRecDepth 100000 in
set_option maxHeartbeats 8000000 in
theorem lc_tied {Rl : xsRel} (l : Launch) (hst : l.stackTraces = false) (hp : pc_tied Rl) {i v1 v2 v3 v4 v5 : Int32} (C : xsC p s m c cL_law #[.ref b] RL 8 X) (hX : va_X b L xs s s.heap) (hbz : b < xsZ X) (hbl : b < s.heap.size) (hi1 : vp_in (i + 1) L ∧ xs (i + 1).toNatClampNeg = v1) (hi2 : vp_in (i + 2) L ∧ xs (i + 2).toNatClampNeg = v2) (hi3 : vp_in (i + 3) L ∧ xs (i + 3).toNatClampNeg = v3) (hi4 : vp_in (i + 4) L ∧ xs (i + 4).toNatClampNeg = v4) (hi5 : vp_in (i + 5) L ∧ xs (i + 5).toNatClampNeg = v5) (hcs : xsRmC C0 D0) (hP : va_P (xsD X) vwCl (wK X kIsKept kIsStale hiLatest hiSize scBytes scTold scLength scFault scAt scNumber piSegmentsNow enKind enX enY enLower enFromX enFromY enToX enToY tiTouching tiLyingAlong tiMeetingPairs tiAlongPairs tiSize evX evY evLower evBundle evCrossingOf evEventOf evLeftEvent evRightEvent evSize evCrossings evSegmentsNow grDegree grEdges grFar grQueue grQueued huX huY huSize huBestX huBestY S (xsOc X ou :: wM X mThrown mWorld mImage mDraft mEarlier mRemembered mHasImage mIsLaid mOne mTwo mShare mX mY mD mEventX mEventY mEventD mEvents mCrossingOf mBundle mEventOf mDegree mFrom mTo mCrossings mEdges mMet mUpper mLower mTape mTaped mPoint mEnd mBegin mFaultAt mFive mTold mActs mFar mViews mHullX mHullY mEndX mEndY mHeightUp mHeightLow mMeets mMeetsOf [])) H) (hD : va_D (xsF X) (wK X kIsKept kIsStale hiLatest hiSize scBytes scTold scLength scFault scAt scNumber piSegmentsNow enKind enX enY enLower enFromX enFromY enToX enToY tiTouching tiLyingAlong tiMeetingPairs tiAlongPairs tiSize evX evY evLower evBundle evCrossingOf evEventOf evLeftEvent evRightEvent evSize evCrossings evSegmentsNow grDegree grEdges grFar grQueue grQueued huX huY huSize huBestX huBestY S (xsOc X ou :: wM X mThrown mWorld mImage mDraft mEarlier mRemembered mHasImage mIsLaid mOne mTwo mShare mX mY mD mEventX mEventY mEventD mEvents mCrossingOf mBundle mEventOf mDegree mFrom mTo mCrossings mEdges mMet mUpper mLower mTape mTaped mPoint mEnd mBegin mFaultAt mFive mTold mActs mFar mViews mHullX mHullY mEndX mEndY mHeightUp mHeightLow mMeets mMeetsOf []))) (hS : va_S (xsF X) s.heap H locs) (hl : lv_has ls 8 [(4, .int i), (3, .ref (xsA X 131)), (2, .ref (xsA X 100)), (1, .ref (xsA X 0)), (0, .ref b)]) (hR : Rl kIsKept kIsStale hiLatest hiSize scBytes scTold scLength scFault scAt scNumber piSegmentsNow enKind enX enY enLower enFromX enFromY enToX enToY tiTouching tiLyingAlong tiMeetingPairs tiAlongPairs tiSize evX evY evLower evBundle evCrossingOf evEventOf evLeftEvent evRightEvent evSize evCrossings evSegmentsNow grDegree grEdges grFar grQueue grQueued huX huY huSize huBestX huBestY S mThrown mWorld mImage mDraft mEarlier mRemembered mHasImage mIsLaid mOne mTwo mShare mX mY mD mEventX mEventY mEventD mEvents mCrossingOf mBundle mEventOf mDegree mFrom mTo mCrossings mEdges mMet mUpper mLower mTape mTaped mPoint mEnd mBegin mFaultAt mFive mTold mActs mFar mViews mHullX mHullY mEndX mEndY mHeightUp mHeightLow mMeets mMeetsOf)
    (kk : ∀ {kIsKept kIsStale hiLatest hiSize scLength scFault scAt scNumber piSegmentsNow enKind enFromX enFromY enToX enToY tiMeetingPairs tiAlongPairs tiSize evSize evCrossings evSegmentsNow grEdges grQueued huSize huBestX huBestY : Int32} {scBytes scTold tiTouching tiLyingAlong evBundle evCrossingOf evEventOf evLeftEvent evRightEvent grDegree grFar grQueue huX huY : Nat → Int32} {enX enY enLower : Int64} {evX evY evLower : Nat → Int64} {S : Nat → xsV} {mThrown mRemembered mHasImage mIsLaid mEvents mCrossings mEdges mTaped mPoint mEnd mBegin mFaultAt mActs : Int32} {mWorld mImage mDraft mEarlier mOne mTwo mShare mCrossingOf mBundle mEventOf mDegree mFrom mTo mMet mTape mFive mTold mFar mViews mHullX mHullY mEndX mEndY mMeets mMeetsOf : Nat → Int32} {mX mY mD mHeightUp mHeightLow : Int64} {mEventX mEventY mEventD mUpper mLower : Nat → Int64} {ou : Nat → Int64} {ls : Array Slot} {H : Heap} {locs : List Loc}, Rl kIsKept kIsStale hiLatest hiSize scBytes scTold scLength scFault scAt scNumber piSegmentsNow enKind enX enY enLower enFromX enFromY enToX enToY tiTouching tiLyingAlong tiMeetingPairs tiAlongPairs tiSize evX evY evLower evBundle evCrossingOf evEventOf evLeftEvent evRightEvent evSize evCrossings evSegmentsNow grDegree grEdges grFar grQueue grQueued huX huY huSize huBestX huBestY S mThrown mWorld mImage mDraft mEarlier mRemembered mHasImage mIsLaid mOne mTwo mShare mX mY mD mEventX mEventY mEventD mEvents mCrossingOf mBundle mEventOf mDegree mFrom mTo mCrossings mEdges mMet mUpper mLower mTape mTaped mPoint mEnd mBegin mFaultAt mFive mTold mActs mFar mViews mHullX mHullY mEndX mEndY mHeightUp mHeightLow mMeets mMeetsOf → va_P (xsD X) vwCl (wK X kIsKept kIsStale hiLatest hiSize scBytes scTold scLength scFault scAt scNumber piSegmentsNow enKind enX enY enLower enFromX enFromY enToX enToY tiTouching tiLyingAlong tiMeetingPairs tiAlongPairs tiSize evX evY evLower evBundle evCrossingOf evEventOf evLeftEvent evRightEvent evSize evCrossings evSegmentsNow grDegree grEdges grFar grQueue grQueued huX huY huSize huBestX huBestY S (xsOc X ou :: wM X mThrown mWorld mImage mDraft mEarlier mRemembered mHasImage mIsLaid mOne mTwo mShare mX mY mD mEventX mEventY mEventD mEvents mCrossingOf mBundle mEventOf mDegree mFrom mTo mCrossings mEdges mMet mUpper mLower mTape mTaped mPoint mEnd mBegin mFaultAt mFive mTold mActs mFar mViews mHullX mHullY mEndX mEndY mHeightUp mHeightLow mMeets mMeetsOf [])) H → va_D (xsF X) (wK X kIsKept kIsStale hiLatest hiSize scBytes scTold scLength scFault scAt scNumber piSegmentsNow enKind enX enY enLower enFromX enFromY enToX enToY tiTouching tiLyingAlong tiMeetingPairs tiAlongPairs tiSize evX evY evLower evBundle evCrossingOf evEventOf evLeftEvent evRightEvent evSize evCrossings evSegmentsNow grDegree grEdges grFar grQueue grQueued huX huY huSize huBestX huBestY S (xsOc X ou :: wM X mThrown mWorld mImage mDraft mEarlier mRemembered mHasImage mIsLaid mOne mTwo mShare mX mY mD mEventX mEventY mEventD mEvents mCrossingOf mBundle mEventOf mDegree mFrom mTo mCrossings mEdges mMet mUpper mLower mTape mTaped mPoint mEnd mBegin mFaultAt mFive mTold mActs mFar mViews mHullX mHullY mEndX mEndY mHeightUp mHeightLow mMeets mMeetsOf [])) → va_S (xsF X) s.heap H locs → lv_has ls 8 [(4, .int i), (3, .ref (xsA X 131)), (2, .ref (xsA X 100)), (1, .ref (xsA X 0)), (0, .ref b)] → W p l e room_1 s m #[.ref b] below meth c H locs (C0 + 5) (D0 + 30) Q (F0 m 2175 ls [])) :
    W p l e room_1 s m #[.ref b] below meth c H locs C0 D0 Q (F0 m 1366 ls []) := by
  have hx := C.1
  have hb := C.2.1
  obtain ⟨out, mo, ef, em, hor⟩ := hp hR v1
  rcases hor with ⟨tt, eo, ea, et, hR⟩ | ⟨n, tt, eo, en, et, hR⟩
  · subst eo
    refine lv_aload_n hx hb dL_law_1366 rfl (lv_at hl 3 rfl) ?_
    refine lv_aload_n hx hb dL_law_1367 rfl (lv_at hl 4 rfl) ?_
    refine lv_iload hx hb dL_law_1368 (lv_at hl 0 rfl) ?_
    refine lv_iconst (v := (1 : Int32)) hx hb dL_law_1370 (by decide) ?_
    refine lv_iadd hx hb dL_law_1371 ?_
    refine xs_lld C hX hbz hbl hS hi1 dL_law_1372 ?_
    refine lv_aload_n hx hb dL_law_1373 rfl (lv_at hl 1 rfl) ?_
    refine xs_lcalli hS (xs_lrunS (As := [.ref (xsA X 0), .int v1, .ref (xsA X 131)]) (rest := []) C (mL_tied l hst (xs_eta (S 0)) ef (fun n tt h => by cases h)) w_1224 w_1225 w_104 w_1226 hd_L_tied (xsRmL hcs (by decide) (by decide) (by decide) (by decide)) hP hD hS hl.1 rfl (Nat.le_of_ble_eq_true rfl) dL_law_1374) (fun r u H locs hq hP hD hS => ?_)
    rcases hq with ⟨tx, e1, e2, e3⟩ | ⟨n, tx, e1, e2, e3⟩
    · cases e1
      subst e3
      subst e2
      refine lv_istore (lv' := [(5, .int 0), (4, .int i), (3, .ref (xsA X 131)), (2, .ref (xsA X 100)), (1, .ref (xsA X 0)), (0, .ref b)]) hx hb dL_law_1377 hl (by decide) rfl (fun ls hl => ?_)
      refine lv_aload_n hx hb dL_law_1379 rfl (lv_at hl 3 rfl) ?_
      refine lv_aload_n hx hb dL_law_1380 rfl (lv_at hl 5 rfl) ?_
      refine lv_iload hx hb dL_law_1381 (lv_at hl 1 rfl) ?_
      refine lv_iconst (v := (1 : Int32)) hx hb dL_law_1383 (by decide) ?_
      refine lv_iadd hx hb dL_law_1384 ?_
      refine xs_lld C hX hbz hbl hS hi1 dL_law_1385 ?_
      replace hP := xs_toM hP
      replace hD := xs_toMD hD
      refine xs_calli hS (xs_runV (As := [.int v1]) (rest := []) C (mX11_tied l em) w_1859 w_1860 w_1861 w_115 w_1862 hd_X11_tied (xsRmB hcs (by decide) (by decide) (by decide) (by decide)) hP hD hS lk_X11 rfl hl.1 rfl (Nat.le_of_ble_eq_true rfl) dL_law_1386) (fun H locs hP hD hS => ?_)
      refine lv_istore (lv' := [(6, .int mo.1), (5, .int 0), (4, .int i), (3, .ref (xsA X 131)), (2, .ref (xsA X 100)), (1, .ref (xsA X 0)), (0, .ref b)]) hx hb dL_law_1389 hl (by decide) rfl (fun ls hl => ?_)
      refine lv_aload_n hx hb dL_law_1391 rfl (lv_at hl 4 rfl) ?_
      refine xs_calli hS (xs_runV (As := []) (rest := []) C (mX11_thrown l rfl) w_1343 w_1344 w_1345 w_115 w_1346 hd_X11_thrown (xsRmB hcs (by decide) (by decide) (by decide) (by decide)) hP hD hS lk_X11 rfl hl.1 rfl (Nat.le_of_ble_eq_true rfl) dL_law_1392) (fun H locs hP hD hS => ?_)
      replace hP := xs_toK hP
      replace hD := xs_toKD hD
      refine lv_iload hx hb dL_law_1395 (lv_at hl 1 rfl) ?_
      refine lv_icmp_eq (tgt := 1402) hx hb dL_law_1397 (by decide) (fun _ => ?_) (fun q => absurd et q)
      refine lv_iload hx hb dL_law_1402 (lv_at hl 1 rfl) ?_
      refine lv_if_ne (tgt := 1419) hx hb dL_law_1404 (by decide) (fun q => absurd rfl q) (fun _ => ?_)
      refine lv_aload_n hx hb dL_law_1407 rfl (lv_at hl 3 rfl) ?_
      refine lv_iconst (v := (0 : Int32)) hx hb dL_law_1408 (by decide) ?_
      refine xs_lald C hP (q0 := 99) rfl (vp_in_nI (n := 0) (by decide) (by decide)) dL_law_1409 ?_
      refine lv_iload hx hb dL_law_1410 (lv_at hl 0 rfl) ?_
      refine lv_i2l hx hb dL_law_1412 rfl ?_
      refine xs_lcmp_eq (tgt := 1419) C dL_law_1413 dL_law_1414 (by decide) (fun _ => ?_) (fun q => absurd (xs_ou0 (congrArg Int32.toInt64 ea)) q)
      refine lv_goto (tgt := 2175) hx hb dL_law_1419 (by decide) ?_
      exact W.widen (Nat.add_le_add_left (by decide) _) (Nat.add_le_add_left (by decide) _) (kk hR hP hD hS (lv_sub hl [2, 3, 4, 5, 6] rfl))
    · cases e1
  · subst eo
    refine lv_aload_n hx hb dL_law_1366 rfl (lv_at hl 3 rfl) ?_
    refine lv_aload_n hx hb dL_law_1367 rfl (lv_at hl 4 rfl) ?_
    refine lv_iload hx hb dL_law_1368 (lv_at hl 0 rfl) ?_
    refine lv_iconst (v := (1 : Int32)) hx hb dL_law_1370 (by decide) ?_
    refine lv_iadd hx hb dL_law_1371 ?_
    refine xs_lld C hX hbz hbl hS hi1 dL_law_1372 ?_
    refine lv_aload_n hx hb dL_law_1373 rfl (lv_at hl 1 rfl) ?_
    refine xs_lcalli hS (xs_lrunS (As := [.ref (xsA X 0), .int v1, .ref (xsA X 131)]) (rest := []) C (mL_tied l hst (xs_eta (S 0)) ef (fun n2 t2 h => by cases h; exact en)) w_1224 w_1225 w_104 w_1226 hd_L_tied (xsRmL hcs (by decide) (by decide) (by decide) (by decide)) hP hD hS hl.1 rfl (Nat.le_of_ble_eq_true rfl) dL_law_1374) (fun r u H locs hq hP hD hS => ?_)
    rcases hq with ⟨tx, e1, e2, e3⟩ | ⟨n2, tx, e1, e2, e3⟩
    · cases e1
    · cases e1
      subst e3
      have ekn : ¬ r = 0 := by rw [e2]; rw [en]; decide
      replace et := et.trans e2.symm
      refine lv_istore (lv' := [(5, .int r), (4, .int i), (3, .ref (xsA X 131)), (2, .ref (xsA X 100)), (1, .ref (xsA X 0)), (0, .ref b)]) hx hb dL_law_1377 hl (by decide) rfl (fun ls hl => ?_)
      refine lv_aload_n hx hb dL_law_1379 rfl (lv_at hl 3 rfl) ?_
      refine lv_aload_n hx hb dL_law_1380 rfl (lv_at hl 5 rfl) ?_
      refine lv_iload hx hb dL_law_1381 (lv_at hl 1 rfl) ?_
      refine lv_iconst (v := (1 : Int32)) hx hb dL_law_1383 (by decide) ?_
      refine lv_iadd hx hb dL_law_1384 ?_
      refine xs_lld C hX hbz hbl hS hi1 dL_law_1385 ?_
      replace hP := xs_toM hP
      replace hD := xs_toMD hD
      refine xs_calli hS (xs_runV (As := [.int v1]) (rest := []) C (mX11_tied l em) w_1859 w_1860 w_1861 w_115 w_1862 hd_X11_tied (xsRmB hcs (by decide) (by decide) (by decide) (by decide)) hP hD hS lk_X11 rfl hl.1 rfl (Nat.le_of_ble_eq_true rfl) dL_law_1386) (fun H locs hP hD hS => ?_)
      refine lv_istore (lv' := [(6, .int mo.1), (5, .int r), (4, .int i), (3, .ref (xsA X 131)), (2, .ref (xsA X 100)), (1, .ref (xsA X 0)), (0, .ref b)]) hx hb dL_law_1389 hl (by decide) rfl (fun ls hl => ?_)
      refine lv_aload_n hx hb dL_law_1391 rfl (lv_at hl 4 rfl) ?_
      refine xs_calli hS (xs_runV (As := []) (rest := []) C (mX11_thrown l rfl) w_1343 w_1344 w_1345 w_115 w_1346 hd_X11_thrown (xsRmB hcs (by decide) (by decide) (by decide) (by decide)) hP hD hS lk_X11 rfl hl.1 rfl (Nat.le_of_ble_eq_true rfl) dL_law_1392) (fun H locs hP hD hS => ?_)
      replace hP := xs_toK hP
      replace hD := xs_toKD hD
      refine lv_iload hx hb dL_law_1395 (lv_at hl 1 rfl) ?_
      refine lv_icmp_eq (tgt := 1402) hx hb dL_law_1397 (by decide) (fun _ => ?_) (fun q => absurd et q)
      refine lv_iload hx hb dL_law_1402 (lv_at hl 1 rfl) ?_
      refine lv_if_ne (tgt := 1419) hx hb dL_law_1404 (by decide) (fun _ => ?_) (fun q => absurd q (ekn))
      refine lv_goto (tgt := 2175) hx hb dL_law_1419 (by decide) ?_
      exact W.widen (Nat.add_le_add_left (by decide) _) (Nat.add_le_add_left (by decide) _) (kk hR hP hD hS (lv_sub hl [2, 3, 4, 5, 6] rfl))
set_option maxRecDepth 100000 in
set_option maxHeartbeats 8000000 in
theorem lc_steps {Rl : xsRel} (l : Launch) (hst : l.stackTraces = false) (hp : pc_steps Rl) {i v1 v2 v3 v4 v5 : Int32} (C : xsC p s m c cL_law #[.ref b] RL 8 X) (hX : va_X b L xs s s.heap) (hbz : b < xsZ X) (hbl : b < s.heap.size) (hi1 : vp_in (i + 1) L ∧ xs (i + 1).toNatClampNeg = v1) (hi2 : vp_in (i + 2) L ∧ xs (i + 2).toNatClampNeg = v2) (hi3 : vp_in (i + 3) L ∧ xs (i + 3).toNatClampNeg = v3) (hi4 : vp_in (i + 4) L ∧ xs (i + 4).toNatClampNeg = v4) (hi5 : vp_in (i + 5) L ∧ xs (i + 5).toNatClampNeg = v5) (hcs : xsRmC C0 D0) (hP : va_P (xsD X) vwCl (wK X kIsKept kIsStale hiLatest hiSize scBytes scTold scLength scFault scAt scNumber piSegmentsNow enKind enX enY enLower enFromX enFromY enToX enToY tiTouching tiLyingAlong tiMeetingPairs tiAlongPairs tiSize evX evY evLower evBundle evCrossingOf evEventOf evLeftEvent evRightEvent evSize evCrossings evSegmentsNow grDegree grEdges grFar grQueue grQueued huX huY huSize huBestX huBestY S (xsOc X ou :: wM X mThrown mWorld mImage mDraft mEarlier mRemembered mHasImage mIsLaid mOne mTwo mShare mX mY mD mEventX mEventY mEventD mEvents mCrossingOf mBundle mEventOf mDegree mFrom mTo mCrossings mEdges mMet mUpper mLower mTape mTaped mPoint mEnd mBegin mFaultAt mFive mTold mActs mFar mViews mHullX mHullY mEndX mEndY mHeightUp mHeightLow mMeets mMeetsOf [])) H) (hD : va_D (xsF X) (wK X kIsKept kIsStale hiLatest hiSize scBytes scTold scLength scFault scAt scNumber piSegmentsNow enKind enX enY enLower enFromX enFromY enToX enToY tiTouching tiLyingAlong tiMeetingPairs tiAlongPairs tiSize evX evY evLower evBundle evCrossingOf evEventOf evLeftEvent evRightEvent evSize evCrossings evSegmentsNow grDegree grEdges grFar grQueue grQueued huX huY huSize huBestX huBestY S (xsOc X ou :: wM X mThrown mWorld mImage mDraft mEarlier mRemembered mHasImage mIsLaid mOne mTwo mShare mX mY mD mEventX mEventY mEventD mEvents mCrossingOf mBundle mEventOf mDegree mFrom mTo mCrossings mEdges mMet mUpper mLower mTape mTaped mPoint mEnd mBegin mFaultAt mFive mTold mActs mFar mViews mHullX mHullY mEndX mEndY mHeightUp mHeightLow mMeets mMeetsOf []))) (hS : va_S (xsF X) s.heap H locs) (hl : lv_has ls 8 [(4, .int i), (3, .ref (xsA X 131)), (2, .ref (xsA X 100)), (1, .ref (xsA X 0)), (0, .ref b)]) (hR : Rl kIsKept kIsStale hiLatest hiSize scBytes scTold scLength scFault scAt scNumber piSegmentsNow enKind enX enY enLower enFromX enFromY enToX enToY tiTouching tiLyingAlong tiMeetingPairs tiAlongPairs tiSize evX evY evLower evBundle evCrossingOf evEventOf evLeftEvent evRightEvent evSize evCrossings evSegmentsNow grDegree grEdges grFar grQueue grQueued huX huY huSize huBestX huBestY S mThrown mWorld mImage mDraft mEarlier mRemembered mHasImage mIsLaid mOne mTwo mShare mX mY mD mEventX mEventY mEventD mEvents mCrossingOf mBundle mEventOf mDegree mFrom mTo mCrossings mEdges mMet mUpper mLower mTape mTaped mPoint mEnd mBegin mFaultAt mFive mTold mActs mFar mViews mHullX mHullY mEndX mEndY mHeightUp mHeightLow mMeets mMeetsOf)
    (kk : ∀ {kIsKept kIsStale hiLatest hiSize scLength scFault scAt scNumber piSegmentsNow enKind enFromX enFromY enToX enToY tiMeetingPairs tiAlongPairs tiSize evSize evCrossings evSegmentsNow grEdges grQueued huSize huBestX huBestY : Int32} {scBytes scTold tiTouching tiLyingAlong evBundle evCrossingOf evEventOf evLeftEvent evRightEvent grDegree grFar grQueue huX huY : Nat → Int32} {enX enY enLower : Int64} {evX evY evLower : Nat → Int64} {S : Nat → xsV} {mThrown mRemembered mHasImage mIsLaid mEvents mCrossings mEdges mTaped mPoint mEnd mBegin mFaultAt mActs : Int32} {mWorld mImage mDraft mEarlier mOne mTwo mShare mCrossingOf mBundle mEventOf mDegree mFrom mTo mMet mTape mFive mTold mFar mViews mHullX mHullY mEndX mEndY mMeets mMeetsOf : Nat → Int32} {mX mY mD mHeightUp mHeightLow : Int64} {mEventX mEventY mEventD mUpper mLower : Nat → Int64} {ou : Nat → Int64} {ls : Array Slot} {H : Heap} {locs : List Loc}, Rl kIsKept kIsStale hiLatest hiSize scBytes scTold scLength scFault scAt scNumber piSegmentsNow enKind enX enY enLower enFromX enFromY enToX enToY tiTouching tiLyingAlong tiMeetingPairs tiAlongPairs tiSize evX evY evLower evBundle evCrossingOf evEventOf evLeftEvent evRightEvent evSize evCrossings evSegmentsNow grDegree grEdges grFar grQueue grQueued huX huY huSize huBestX huBestY S mThrown mWorld mImage mDraft mEarlier mRemembered mHasImage mIsLaid mOne mTwo mShare mX mY mD mEventX mEventY mEventD mEvents mCrossingOf mBundle mEventOf mDegree mFrom mTo mCrossings mEdges mMet mUpper mLower mTape mTaped mPoint mEnd mBegin mFaultAt mFive mTold mActs mFar mViews mHullX mHullY mEndX mEndY mHeightUp mHeightLow mMeets mMeetsOf → va_P (xsD X) vwCl (wK X kIsKept kIsStale hiLatest hiSize scBytes scTold scLength scFault scAt scNumber piSegmentsNow enKind enX enY enLower enFromX enFromY enToX enToY tiTouching tiLyingAlong tiMeetingPairs tiAlongPairs tiSize evX evY evLower evBundle evCrossingOf evEventOf evLeftEvent evRightEvent evSize evCrossings evSegmentsNow grDegree grEdges grFar grQueue grQueued huX huY huSize huBestX huBestY S (xsOc X ou :: wM X mThrown mWorld mImage mDraft mEarlier mRemembered mHasImage mIsLaid mOne mTwo mShare mX mY mD mEventX mEventY mEventD mEvents mCrossingOf mBundle mEventOf mDegree mFrom mTo mCrossings mEdges mMet mUpper mLower mTape mTaped mPoint mEnd mBegin mFaultAt mFive mTold mActs mFar mViews mHullX mHullY mEndX mEndY mHeightUp mHeightLow mMeets mMeetsOf [])) H → va_D (xsF X) (wK X kIsKept kIsStale hiLatest hiSize scBytes scTold scLength scFault scAt scNumber piSegmentsNow enKind enX enY enLower enFromX enFromY enToX enToY tiTouching tiLyingAlong tiMeetingPairs tiAlongPairs tiSize evX evY evLower evBundle evCrossingOf evEventOf evLeftEvent evRightEvent evSize evCrossings evSegmentsNow grDegree grEdges grFar grQueue grQueued huX huY huSize huBestX huBestY S (xsOc X ou :: wM X mThrown mWorld mImage mDraft mEarlier mRemembered mHasImage mIsLaid mOne mTwo mShare mX mY mD mEventX mEventY mEventD mEvents mCrossingOf mBundle mEventOf mDegree mFrom mTo mCrossings mEdges mMet mUpper mLower mTape mTaped mPoint mEnd mBegin mFaultAt mFive mTold mActs mFar mViews mHullX mHullY mEndX mEndY mHeightUp mHeightLow mMeets mMeetsOf [])) → va_S (xsF X) s.heap H locs → lv_has ls 8 [(4, .int i), (3, .ref (xsA X 131)), (2, .ref (xsA X 100)), (1, .ref (xsA X 0)), (0, .ref b)] → W p l e room_1 s m #[.ref b] below meth c H locs (C0 + 5) (D0 + 30) Q (F0 m 2175 ls [])) :
    W p l e room_1 s m #[.ref b] below meth c H locs C0 D0 Q (F0 m 1422 ls []) := by
  have hx := C.1
  have hb := C.2.1
  obtain ⟨out, mo, ef, em, hor⟩ := hp hR v1 v2
  rcases hor with ⟨tt, eo, ea, et, hR⟩ | ⟨n, tt, eo, en, et, hR⟩
  · subst eo
    refine lv_aload_n hx hb dL_law_1422 rfl (lv_at hl 3 rfl) ?_
    refine lv_aload_n hx hb dL_law_1423 rfl (lv_at hl 4 rfl) ?_
    refine lv_iload hx hb dL_law_1424 (lv_at hl 0 rfl) ?_
    refine lv_iconst (v := (1 : Int32)) hx hb dL_law_1426 (by decide) ?_
    refine lv_iadd hx hb dL_law_1427 ?_
    refine xs_lld C hX hbz hbl hS hi1 dL_law_1428 ?_
    refine lv_aload_n hx hb dL_law_1429 rfl (lv_at hl 4 rfl) ?_
    refine lv_iload hx hb dL_law_1430 (lv_at hl 0 rfl) ?_
    refine lv_iconst (v := (2 : Int32)) hx hb dL_law_1432 (by decide) ?_
    refine lv_iadd hx hb dL_law_1433 ?_
    refine xs_lld C hX hbz hbl hS hi2 dL_law_1434 ?_
    refine lv_aload_n hx hb dL_law_1435 rfl (lv_at hl 1 rfl) ?_
    refine xs_lcalli hS (xs_lrunS (As := [.ref (xsA X 0), .int v1, .int v2, .ref (xsA X 131)]) (rest := []) C (mL_steps l hst (xs_eta (S 0)) ef (fun n tt h => by cases h)) w_1231 w_1232 w_104 w_1233 hd_L_steps (xsRmL hcs (by decide) (by decide) (by decide) (by decide)) hP hD hS hl.1 rfl (Nat.le_of_ble_eq_true rfl) dL_law_1436) (fun r u H locs hq hP hD hS => ?_)
    rcases hq with ⟨tx, e1, e2, e3⟩ | ⟨n, tx, e1, e2, e3⟩
    · cases e1
      subst e3
      subst e2
      refine lv_istore (lv' := [(5, .int 0), (4, .int i), (3, .ref (xsA X 131)), (2, .ref (xsA X 100)), (1, .ref (xsA X 0)), (0, .ref b)]) hx hb dL_law_1439 hl (by decide) rfl (fun ls hl => ?_)
      refine lv_aload_n hx hb dL_law_1441 rfl (lv_at hl 3 rfl) ?_
      refine lv_aload_n hx hb dL_law_1442 rfl (lv_at hl 5 rfl) ?_
      refine lv_iload hx hb dL_law_1443 (lv_at hl 1 rfl) ?_
      refine lv_iconst (v := (1 : Int32)) hx hb dL_law_1445 (by decide) ?_
      refine lv_iadd hx hb dL_law_1446 ?_
      refine xs_lld C hX hbz hbl hS hi1 dL_law_1447 ?_
      refine lv_aload_n hx hb dL_law_1448 rfl (lv_at hl 5 rfl) ?_
      refine lv_iload hx hb dL_law_1449 (lv_at hl 1 rfl) ?_
      refine lv_iconst (v := (2 : Int32)) hx hb dL_law_1451 (by decide) ?_
      refine lv_iadd hx hb dL_law_1452 ?_
      refine xs_lld C hX hbz hbl hS hi2 dL_law_1453 ?_
      replace hP := xs_toM hP
      replace hD := xs_toMD hD
      refine xs_calli hS (xs_runV (As := [.int v1, .int v2]) (rest := []) C (mX11_steps l em) w_1863 w_1864 w_1865 w_115 w_1866 hd_X11_steps (xsRmB hcs (by decide) (by decide) (by decide) (by decide)) hP hD hS lk_X11 rfl hl.1 rfl (Nat.le_of_ble_eq_true rfl) dL_law_1454) (fun H locs hP hD hS => ?_)
      refine lv_istore (lv' := [(6, .int mo.1), (5, .int 0), (4, .int i), (3, .ref (xsA X 131)), (2, .ref (xsA X 100)), (1, .ref (xsA X 0)), (0, .ref b)]) hx hb dL_law_1457 hl (by decide) rfl (fun ls hl => ?_)
      refine lv_aload_n hx hb dL_law_1459 rfl (lv_at hl 4 rfl) ?_
      refine xs_calli hS (xs_runV (As := []) (rest := []) C (mX11_thrown l rfl) w_1343 w_1344 w_1345 w_115 w_1346 hd_X11_thrown (xsRmB hcs (by decide) (by decide) (by decide) (by decide)) hP hD hS lk_X11 rfl hl.1 rfl (Nat.le_of_ble_eq_true rfl) dL_law_1460) (fun H locs hP hD hS => ?_)
      replace hP := xs_toK hP
      replace hD := xs_toKD hD
      refine lv_iload hx hb dL_law_1463 (lv_at hl 1 rfl) ?_
      refine lv_icmp_eq (tgt := 1470) hx hb dL_law_1465 (by decide) (fun _ => ?_) (fun q => absurd et q)
      refine lv_iload hx hb dL_law_1470 (lv_at hl 1 rfl) ?_
      refine lv_if_ne (tgt := 1487) hx hb dL_law_1472 (by decide) (fun q => absurd rfl q) (fun _ => ?_)
      refine lv_aload_n hx hb dL_law_1475 rfl (lv_at hl 3 rfl) ?_
      refine lv_iconst (v := (0 : Int32)) hx hb dL_law_1476 (by decide) ?_
      refine xs_lald C hP (q0 := 99) rfl (vp_in_nI (n := 0) (by decide) (by decide)) dL_law_1477 ?_
      refine lv_iload hx hb dL_law_1478 (lv_at hl 0 rfl) ?_
      refine lv_i2l hx hb dL_law_1480 rfl ?_
      refine xs_lcmp_eq (tgt := 1487) C dL_law_1481 dL_law_1482 (by decide) (fun _ => ?_) (fun q => absurd (xs_ou0 (congrArg Int32.toInt64 ea)) q)
      refine lv_goto (tgt := 2175) hx hb dL_law_1487 (by decide) ?_
      exact W.widen (Nat.add_le_add_left (by decide) _) (Nat.add_le_add_left (by decide) _) (kk hR hP hD hS (lv_sub hl [2, 3, 4, 5, 6] rfl))
    · cases e1
  · subst eo
    refine lv_aload_n hx hb dL_law_1422 rfl (lv_at hl 3 rfl) ?_
    refine lv_aload_n hx hb dL_law_1423 rfl (lv_at hl 4 rfl) ?_
    refine lv_iload hx hb dL_law_1424 (lv_at hl 0 rfl) ?_
    refine lv_iconst (v := (1 : Int32)) hx hb dL_law_1426 (by decide) ?_
    refine lv_iadd hx hb dL_law_1427 ?_
    refine xs_lld C hX hbz hbl hS hi1 dL_law_1428 ?_
    refine lv_aload_n hx hb dL_law_1429 rfl (lv_at hl 4 rfl) ?_
    refine lv_iload hx hb dL_law_1430 (lv_at hl 0 rfl) ?_
    refine lv_iconst (v := (2 : Int32)) hx hb dL_law_1432 (by decide) ?_
    refine lv_iadd hx hb dL_law_1433 ?_
    refine xs_lld C hX hbz hbl hS hi2 dL_law_1434 ?_
    refine lv_aload_n hx hb dL_law_1435 rfl (lv_at hl 1 rfl) ?_
    refine xs_lcalli hS (xs_lrunS (As := [.ref (xsA X 0), .int v1, .int v2, .ref (xsA X 131)]) (rest := []) C (mL_steps l hst (xs_eta (S 0)) ef (fun n2 t2 h => by cases h; exact en)) w_1231 w_1232 w_104 w_1233 hd_L_steps (xsRmL hcs (by decide) (by decide) (by decide) (by decide)) hP hD hS hl.1 rfl (Nat.le_of_ble_eq_true rfl) dL_law_1436) (fun r u H locs hq hP hD hS => ?_)
    rcases hq with ⟨tx, e1, e2, e3⟩ | ⟨n2, tx, e1, e2, e3⟩
    · cases e1
    · cases e1
      subst e3
      have ekn : ¬ r = 0 := by rw [e2]; rw [en]; decide
      replace et := et.trans e2.symm
      refine lv_istore (lv' := [(5, .int r), (4, .int i), (3, .ref (xsA X 131)), (2, .ref (xsA X 100)), (1, .ref (xsA X 0)), (0, .ref b)]) hx hb dL_law_1439 hl (by decide) rfl (fun ls hl => ?_)
      refine lv_aload_n hx hb dL_law_1441 rfl (lv_at hl 3 rfl) ?_
      refine lv_aload_n hx hb dL_law_1442 rfl (lv_at hl 5 rfl) ?_
      refine lv_iload hx hb dL_law_1443 (lv_at hl 1 rfl) ?_
      refine lv_iconst (v := (1 : Int32)) hx hb dL_law_1445 (by decide) ?_
      refine lv_iadd hx hb dL_law_1446 ?_
      refine xs_lld C hX hbz hbl hS hi1 dL_law_1447 ?_
      refine lv_aload_n hx hb dL_law_1448 rfl (lv_at hl 5 rfl) ?_
      refine lv_iload hx hb dL_law_1449 (lv_at hl 1 rfl) ?_
      refine lv_iconst (v := (2 : Int32)) hx hb dL_law_1451 (by decide) ?_
      refine lv_iadd hx hb dL_law_1452 ?_
      refine xs_lld C hX hbz hbl hS hi2 dL_law_1453 ?_
      replace hP := xs_toM hP
      replace hD := xs_toMD hD
      refine xs_calli hS (xs_runV (As := [.int v1, .int v2]) (rest := []) C (mX11_steps l em) w_1863 w_1864 w_1865 w_115 w_1866 hd_X11_steps (xsRmB hcs (by decide) (by decide) (by decide) (by decide)) hP hD hS lk_X11 rfl hl.1 rfl (Nat.le_of_ble_eq_true rfl) dL_law_1454) (fun H locs hP hD hS => ?_)
      refine lv_istore (lv' := [(6, .int mo.1), (5, .int r), (4, .int i), (3, .ref (xsA X 131)), (2, .ref (xsA X 100)), (1, .ref (xsA X 0)), (0, .ref b)]) hx hb dL_law_1457 hl (by decide) rfl (fun ls hl => ?_)
      refine lv_aload_n hx hb dL_law_1459 rfl (lv_at hl 4 rfl) ?_
      refine xs_calli hS (xs_runV (As := []) (rest := []) C (mX11_thrown l rfl) w_1343 w_1344 w_1345 w_115 w_1346 hd_X11_thrown (xsRmB hcs (by decide) (by decide) (by decide) (by decide)) hP hD hS lk_X11 rfl hl.1 rfl (Nat.le_of_ble_eq_true rfl) dL_law_1460) (fun H locs hP hD hS => ?_)
      replace hP := xs_toK hP
      replace hD := xs_toKD hD
      refine lv_iload hx hb dL_law_1463 (lv_at hl 1 rfl) ?_
      refine lv_icmp_eq (tgt := 1470) hx hb dL_law_1465 (by decide) (fun _ => ?_) (fun q => absurd et q)
      refine lv_iload hx hb dL_law_1470 (lv_at hl 1 rfl) ?_
      refine lv_if_ne (tgt := 1487) hx hb dL_law_1472 (by decide) (fun _ => ?_) (fun q => absurd q (ekn))
      refine lv_goto (tgt := 2175) hx hb dL_law_1487 (by decide) ?_
      exact W.widen (Nat.add_le_add_left (by decide) _) (Nat.add_le_add_left (by decide) _) (kk hR hP hD hS (lv_sub hl [2, 3, 4, 5, 6] rfl))
set_option maxRecDepth 100000 in
set_option maxHeartbeats 8000000 in
theorem lc_hull {Rl : xsRel} (l : Launch) (hst : l.stackTraces = false) (hp : pc_hull Rl) {i v1 v2 v3 v4 v5 : Int32} (C : xsC p s m c cL_law #[.ref b] RL 8 X) (hX : va_X b L xs s s.heap) (hbz : b < xsZ X) (hbl : b < s.heap.size) (hi1 : vp_in (i + 1) L ∧ xs (i + 1).toNatClampNeg = v1) (hi2 : vp_in (i + 2) L ∧ xs (i + 2).toNatClampNeg = v2) (hi3 : vp_in (i + 3) L ∧ xs (i + 3).toNatClampNeg = v3) (hi4 : vp_in (i + 4) L ∧ xs (i + 4).toNatClampNeg = v4) (hi5 : vp_in (i + 5) L ∧ xs (i + 5).toNatClampNeg = v5) (hcs : xsRmC C0 D0) (hP : va_P (xsD X) vwCl (wK X kIsKept kIsStale hiLatest hiSize scBytes scTold scLength scFault scAt scNumber piSegmentsNow enKind enX enY enLower enFromX enFromY enToX enToY tiTouching tiLyingAlong tiMeetingPairs tiAlongPairs tiSize evX evY evLower evBundle evCrossingOf evEventOf evLeftEvent evRightEvent evSize evCrossings evSegmentsNow grDegree grEdges grFar grQueue grQueued huX huY huSize huBestX huBestY S (xsOc X ou :: wM X mThrown mWorld mImage mDraft mEarlier mRemembered mHasImage mIsLaid mOne mTwo mShare mX mY mD mEventX mEventY mEventD mEvents mCrossingOf mBundle mEventOf mDegree mFrom mTo mCrossings mEdges mMet mUpper mLower mTape mTaped mPoint mEnd mBegin mFaultAt mFive mTold mActs mFar mViews mHullX mHullY mEndX mEndY mHeightUp mHeightLow mMeets mMeetsOf [])) H) (hD : va_D (xsF X) (wK X kIsKept kIsStale hiLatest hiSize scBytes scTold scLength scFault scAt scNumber piSegmentsNow enKind enX enY enLower enFromX enFromY enToX enToY tiTouching tiLyingAlong tiMeetingPairs tiAlongPairs tiSize evX evY evLower evBundle evCrossingOf evEventOf evLeftEvent evRightEvent evSize evCrossings evSegmentsNow grDegree grEdges grFar grQueue grQueued huX huY huSize huBestX huBestY S (xsOc X ou :: wM X mThrown mWorld mImage mDraft mEarlier mRemembered mHasImage mIsLaid mOne mTwo mShare mX mY mD mEventX mEventY mEventD mEvents mCrossingOf mBundle mEventOf mDegree mFrom mTo mCrossings mEdges mMet mUpper mLower mTape mTaped mPoint mEnd mBegin mFaultAt mFive mTold mActs mFar mViews mHullX mHullY mEndX mEndY mHeightUp mHeightLow mMeets mMeetsOf []))) (hS : va_S (xsF X) s.heap H locs) (hl : lv_has ls 8 [(4, .int i), (3, .ref (xsA X 131)), (2, .ref (xsA X 100)), (1, .ref (xsA X 0)), (0, .ref b)]) (hR : Rl kIsKept kIsStale hiLatest hiSize scBytes scTold scLength scFault scAt scNumber piSegmentsNow enKind enX enY enLower enFromX enFromY enToX enToY tiTouching tiLyingAlong tiMeetingPairs tiAlongPairs tiSize evX evY evLower evBundle evCrossingOf evEventOf evLeftEvent evRightEvent evSize evCrossings evSegmentsNow grDegree grEdges grFar grQueue grQueued huX huY huSize huBestX huBestY S mThrown mWorld mImage mDraft mEarlier mRemembered mHasImage mIsLaid mOne mTwo mShare mX mY mD mEventX mEventY mEventD mEvents mCrossingOf mBundle mEventOf mDegree mFrom mTo mCrossings mEdges mMet mUpper mLower mTape mTaped mPoint mEnd mBegin mFaultAt mFive mTold mActs mFar mViews mHullX mHullY mEndX mEndY mHeightUp mHeightLow mMeets mMeetsOf)
    (kk : ∀ {kIsKept kIsStale hiLatest hiSize scLength scFault scAt scNumber piSegmentsNow enKind enFromX enFromY enToX enToY tiMeetingPairs tiAlongPairs tiSize evSize evCrossings evSegmentsNow grEdges grQueued huSize huBestX huBestY : Int32} {scBytes scTold tiTouching tiLyingAlong evBundle evCrossingOf evEventOf evLeftEvent evRightEvent grDegree grFar grQueue huX huY : Nat → Int32} {enX enY enLower : Int64} {evX evY evLower : Nat → Int64} {S : Nat → xsV} {mThrown mRemembered mHasImage mIsLaid mEvents mCrossings mEdges mTaped mPoint mEnd mBegin mFaultAt mActs : Int32} {mWorld mImage mDraft mEarlier mOne mTwo mShare mCrossingOf mBundle mEventOf mDegree mFrom mTo mMet mTape mFive mTold mFar mViews mHullX mHullY mEndX mEndY mMeets mMeetsOf : Nat → Int32} {mX mY mD mHeightUp mHeightLow : Int64} {mEventX mEventY mEventD mUpper mLower : Nat → Int64} {ou : Nat → Int64} {ls : Array Slot} {H : Heap} {locs : List Loc}, Rl kIsKept kIsStale hiLatest hiSize scBytes scTold scLength scFault scAt scNumber piSegmentsNow enKind enX enY enLower enFromX enFromY enToX enToY tiTouching tiLyingAlong tiMeetingPairs tiAlongPairs tiSize evX evY evLower evBundle evCrossingOf evEventOf evLeftEvent evRightEvent evSize evCrossings evSegmentsNow grDegree grEdges grFar grQueue grQueued huX huY huSize huBestX huBestY S mThrown mWorld mImage mDraft mEarlier mRemembered mHasImage mIsLaid mOne mTwo mShare mX mY mD mEventX mEventY mEventD mEvents mCrossingOf mBundle mEventOf mDegree mFrom mTo mCrossings mEdges mMet mUpper mLower mTape mTaped mPoint mEnd mBegin mFaultAt mFive mTold mActs mFar mViews mHullX mHullY mEndX mEndY mHeightUp mHeightLow mMeets mMeetsOf → va_P (xsD X) vwCl (wK X kIsKept kIsStale hiLatest hiSize scBytes scTold scLength scFault scAt scNumber piSegmentsNow enKind enX enY enLower enFromX enFromY enToX enToY tiTouching tiLyingAlong tiMeetingPairs tiAlongPairs tiSize evX evY evLower evBundle evCrossingOf evEventOf evLeftEvent evRightEvent evSize evCrossings evSegmentsNow grDegree grEdges grFar grQueue grQueued huX huY huSize huBestX huBestY S (xsOc X ou :: wM X mThrown mWorld mImage mDraft mEarlier mRemembered mHasImage mIsLaid mOne mTwo mShare mX mY mD mEventX mEventY mEventD mEvents mCrossingOf mBundle mEventOf mDegree mFrom mTo mCrossings mEdges mMet mUpper mLower mTape mTaped mPoint mEnd mBegin mFaultAt mFive mTold mActs mFar mViews mHullX mHullY mEndX mEndY mHeightUp mHeightLow mMeets mMeetsOf [])) H → va_D (xsF X) (wK X kIsKept kIsStale hiLatest hiSize scBytes scTold scLength scFault scAt scNumber piSegmentsNow enKind enX enY enLower enFromX enFromY enToX enToY tiTouching tiLyingAlong tiMeetingPairs tiAlongPairs tiSize evX evY evLower evBundle evCrossingOf evEventOf evLeftEvent evRightEvent evSize evCrossings evSegmentsNow grDegree grEdges grFar grQueue grQueued huX huY huSize huBestX huBestY S (xsOc X ou :: wM X mThrown mWorld mImage mDraft mEarlier mRemembered mHasImage mIsLaid mOne mTwo mShare mX mY mD mEventX mEventY mEventD mEvents mCrossingOf mBundle mEventOf mDegree mFrom mTo mCrossings mEdges mMet mUpper mLower mTape mTaped mPoint mEnd mBegin mFaultAt mFive mTold mActs mFar mViews mHullX mHullY mEndX mEndY mHeightUp mHeightLow mMeets mMeetsOf [])) → va_S (xsF X) s.heap H locs → lv_has ls 8 [(4, .int i), (3, .ref (xsA X 131)), (2, .ref (xsA X 100)), (1, .ref (xsA X 0)), (0, .ref b)] → W p l e room_1 s m #[.ref b] below meth c H locs (C0 + 5) (D0 + 30) Q (F0 m 2175 ls [])) :
    W p l e room_1 s m #[.ref b] below meth c H locs C0 D0 Q (F0 m 1490 ls []) := by
  have hx := C.1
  have hb := C.2.1
  by_cases hz : v2 = 0
  · obtain ⟨out, mo, ef, em, hor⟩ := hp hR v1 (0 : Int32) xsB_0
    rcases hor with ⟨tt, eo, ea, et, hR⟩ | ⟨n, tt, eo, en, et, hR⟩
    · subst eo
      refine lv_aload_n hx hb dL_law_1490 rfl (lv_at hl 3 rfl) ?_
      refine lv_aload_n hx hb dL_law_1491 rfl (lv_at hl 4 rfl) ?_
      refine lv_iload hx hb dL_law_1492 (lv_at hl 0 rfl) ?_
      refine lv_iconst (v := (1 : Int32)) hx hb dL_law_1494 (by decide) ?_
      refine lv_iadd hx hb dL_law_1495 ?_
      refine xs_lld C hX hbz hbl hS hi1 dL_law_1496 ?_
      refine lv_aload_n hx hb dL_law_1497 rfl (lv_at hl 4 rfl) ?_
      refine lv_iload hx hb dL_law_1498 (lv_at hl 0 rfl) ?_
      refine lv_iconst (v := (2 : Int32)) hx hb dL_law_1500 (by decide) ?_
      refine lv_iadd hx hb dL_law_1501 ?_
      refine xs_lld C hX hbz hbl hS hi2 dL_law_1502 ?_
      refine lv_if_eq (tgt := 1510) hx hb dL_law_1503 (by decide) (fun _ => ?_) (fun q => absurd hz q)
      refine lv_iconst (v := (0 : Int32)) hx hb dL_law_1510 (by decide) ?_
      refine lv_aload_n hx hb dL_law_1511 rfl (lv_at hl 1 rfl) ?_
      refine xs_lcalli hS (xs_lrunS (As := [.ref (xsA X 0), .int v1, .int (0 : Int32), .ref (xsA X 131)]) (rest := []) C (mL_hull l hst (xs_eta (S 0)) ef (fun n tt h => by cases h)) w_1242 w_1243 w_104 w_1244 hd_L_hull (xsRmL hcs (by decide) (by decide) (by decide) (by decide)) hP hD hS hl.1 rfl (Nat.le_of_ble_eq_true rfl) dL_law_1512) (fun r u H locs hq hP hD hS => ?_)
      rcases hq with ⟨tx, e1, e2, e3⟩ | ⟨n, tx, e1, e2, e3⟩
      · cases e1
        subst e3
        subst e2
        refine lv_istore (lv' := [(5, .int 0), (4, .int i), (3, .ref (xsA X 131)), (2, .ref (xsA X 100)), (1, .ref (xsA X 0)), (0, .ref b)]) hx hb dL_law_1515 hl (by decide) rfl (fun ls hl => ?_)
        refine lv_aload_n hx hb dL_law_1517 rfl (lv_at hl 3 rfl) ?_
        refine lv_aload_n hx hb dL_law_1518 rfl (lv_at hl 5 rfl) ?_
        refine lv_iload hx hb dL_law_1519 (lv_at hl 1 rfl) ?_
        refine lv_iconst (v := (1 : Int32)) hx hb dL_law_1521 (by decide) ?_
        refine lv_iadd hx hb dL_law_1522 ?_
        refine xs_lld C hX hbz hbl hS hi1 dL_law_1523 ?_
        refine lv_aload_n hx hb dL_law_1524 rfl (lv_at hl 5 rfl) ?_
        refine lv_iload hx hb dL_law_1525 (lv_at hl 1 rfl) ?_
        refine lv_iconst (v := (2 : Int32)) hx hb dL_law_1527 (by decide) ?_
        refine lv_iadd hx hb dL_law_1528 ?_
        refine xs_lld C hX hbz hbl hS hi2 dL_law_1529 ?_
        refine lv_if_eq (tgt := 1537) hx hb dL_law_1530 (by decide) (fun _ => ?_) (fun q => absurd hz q)
        refine lv_iconst (v := (0 : Int32)) hx hb dL_law_1537 (by decide) ?_
        replace hP := xs_toM hP
        replace hD := xs_toMD hD
        refine xs_calli hS (xs_runV (As := [.int v1, .int (0 : Int32)]) (rest := []) C (mX11_hull l em) w_1867 w_1868 w_1869 w_115 w_1870 hd_X11_hull (xsRmB hcs (by decide) (by decide) (by decide) (by decide)) hP hD hS lk_X11 rfl hl.1 rfl (Nat.le_of_ble_eq_true rfl) dL_law_1538) (fun H locs hP hD hS => ?_)
        refine lv_istore (lv' := [(6, .int mo.1), (5, .int 0), (4, .int i), (3, .ref (xsA X 131)), (2, .ref (xsA X 100)), (1, .ref (xsA X 0)), (0, .ref b)]) hx hb dL_law_1541 hl (by decide) rfl (fun ls hl => ?_)
        refine lv_aload_n hx hb dL_law_1543 rfl (lv_at hl 4 rfl) ?_
        refine xs_calli hS (xs_runV (As := []) (rest := []) C (mX11_thrown l rfl) w_1343 w_1344 w_1345 w_115 w_1346 hd_X11_thrown (xsRmB hcs (by decide) (by decide) (by decide) (by decide)) hP hD hS lk_X11 rfl hl.1 rfl (Nat.le_of_ble_eq_true rfl) dL_law_1544) (fun H locs hP hD hS => ?_)
        replace hP := xs_toK hP
        replace hD := xs_toKD hD
        refine lv_iload hx hb dL_law_1547 (lv_at hl 1 rfl) ?_
        refine lv_icmp_eq (tgt := 1554) hx hb dL_law_1549 (by decide) (fun _ => ?_) (fun q => absurd et q)
        refine lv_iload hx hb dL_law_1554 (lv_at hl 1 rfl) ?_
        refine lv_if_ne (tgt := 1571) hx hb dL_law_1556 (by decide) (fun q => absurd rfl q) (fun _ => ?_)
        refine lv_aload_n hx hb dL_law_1559 rfl (lv_at hl 3 rfl) ?_
        refine lv_iconst (v := (0 : Int32)) hx hb dL_law_1560 (by decide) ?_
        refine xs_lald C hP (q0 := 99) rfl (vp_in_nI (n := 0) (by decide) (by decide)) dL_law_1561 ?_
        refine lv_iload hx hb dL_law_1562 (lv_at hl 0 rfl) ?_
        refine lv_i2l hx hb dL_law_1564 rfl ?_
        refine xs_lcmp_eq (tgt := 1571) C dL_law_1565 dL_law_1566 (by decide) (fun _ => ?_) (fun q => absurd (xs_ou0 (congrArg Int32.toInt64 ea)) q)
        refine lv_goto (tgt := 2175) hx hb dL_law_1571 (by decide) ?_
        exact W.widen (Nat.add_le_add_left (by decide) _) (Nat.add_le_add_left (by decide) _) (kk hR hP hD hS (lv_sub hl [2, 3, 4, 5, 6] rfl))
      · cases e1
    · subst eo
      refine lv_aload_n hx hb dL_law_1490 rfl (lv_at hl 3 rfl) ?_
      refine lv_aload_n hx hb dL_law_1491 rfl (lv_at hl 4 rfl) ?_
      refine lv_iload hx hb dL_law_1492 (lv_at hl 0 rfl) ?_
      refine lv_iconst (v := (1 : Int32)) hx hb dL_law_1494 (by decide) ?_
      refine lv_iadd hx hb dL_law_1495 ?_
      refine xs_lld C hX hbz hbl hS hi1 dL_law_1496 ?_
      refine lv_aload_n hx hb dL_law_1497 rfl (lv_at hl 4 rfl) ?_
      refine lv_iload hx hb dL_law_1498 (lv_at hl 0 rfl) ?_
      refine lv_iconst (v := (2 : Int32)) hx hb dL_law_1500 (by decide) ?_
      refine lv_iadd hx hb dL_law_1501 ?_
      refine xs_lld C hX hbz hbl hS hi2 dL_law_1502 ?_
      refine lv_if_eq (tgt := 1510) hx hb dL_law_1503 (by decide) (fun _ => ?_) (fun q => absurd hz q)
      refine lv_iconst (v := (0 : Int32)) hx hb dL_law_1510 (by decide) ?_
      refine lv_aload_n hx hb dL_law_1511 rfl (lv_at hl 1 rfl) ?_
      refine xs_lcalli hS (xs_lrunS (As := [.ref (xsA X 0), .int v1, .int (0 : Int32), .ref (xsA X 131)]) (rest := []) C (mL_hull l hst (xs_eta (S 0)) ef (fun n2 t2 h => by cases h; exact en)) w_1242 w_1243 w_104 w_1244 hd_L_hull (xsRmL hcs (by decide) (by decide) (by decide) (by decide)) hP hD hS hl.1 rfl (Nat.le_of_ble_eq_true rfl) dL_law_1512) (fun r u H locs hq hP hD hS => ?_)
      rcases hq with ⟨tx, e1, e2, e3⟩ | ⟨n2, tx, e1, e2, e3⟩
      · cases e1
      · cases e1
        subst e3
        have ekn : ¬ r = 0 := by rw [e2]; rw [en]; decide
        replace et := et.trans e2.symm
        refine lv_istore (lv' := [(5, .int r), (4, .int i), (3, .ref (xsA X 131)), (2, .ref (xsA X 100)), (1, .ref (xsA X 0)), (0, .ref b)]) hx hb dL_law_1515 hl (by decide) rfl (fun ls hl => ?_)
        refine lv_aload_n hx hb dL_law_1517 rfl (lv_at hl 3 rfl) ?_
        refine lv_aload_n hx hb dL_law_1518 rfl (lv_at hl 5 rfl) ?_
        refine lv_iload hx hb dL_law_1519 (lv_at hl 1 rfl) ?_
        refine lv_iconst (v := (1 : Int32)) hx hb dL_law_1521 (by decide) ?_
        refine lv_iadd hx hb dL_law_1522 ?_
        refine xs_lld C hX hbz hbl hS hi1 dL_law_1523 ?_
        refine lv_aload_n hx hb dL_law_1524 rfl (lv_at hl 5 rfl) ?_
        refine lv_iload hx hb dL_law_1525 (lv_at hl 1 rfl) ?_
        refine lv_iconst (v := (2 : Int32)) hx hb dL_law_1527 (by decide) ?_
        refine lv_iadd hx hb dL_law_1528 ?_
        refine xs_lld C hX hbz hbl hS hi2 dL_law_1529 ?_
        refine lv_if_eq (tgt := 1537) hx hb dL_law_1530 (by decide) (fun _ => ?_) (fun q => absurd hz q)
        refine lv_iconst (v := (0 : Int32)) hx hb dL_law_1537 (by decide) ?_
        replace hP := xs_toM hP
        replace hD := xs_toMD hD
        refine xs_calli hS (xs_runV (As := [.int v1, .int (0 : Int32)]) (rest := []) C (mX11_hull l em) w_1867 w_1868 w_1869 w_115 w_1870 hd_X11_hull (xsRmB hcs (by decide) (by decide) (by decide) (by decide)) hP hD hS lk_X11 rfl hl.1 rfl (Nat.le_of_ble_eq_true rfl) dL_law_1538) (fun H locs hP hD hS => ?_)
        refine lv_istore (lv' := [(6, .int mo.1), (5, .int r), (4, .int i), (3, .ref (xsA X 131)), (2, .ref (xsA X 100)), (1, .ref (xsA X 0)), (0, .ref b)]) hx hb dL_law_1541 hl (by decide) rfl (fun ls hl => ?_)
        refine lv_aload_n hx hb dL_law_1543 rfl (lv_at hl 4 rfl) ?_
        refine xs_calli hS (xs_runV (As := []) (rest := []) C (mX11_thrown l rfl) w_1343 w_1344 w_1345 w_115 w_1346 hd_X11_thrown (xsRmB hcs (by decide) (by decide) (by decide) (by decide)) hP hD hS lk_X11 rfl hl.1 rfl (Nat.le_of_ble_eq_true rfl) dL_law_1544) (fun H locs hP hD hS => ?_)
        replace hP := xs_toK hP
        replace hD := xs_toKD hD
        refine lv_iload hx hb dL_law_1547 (lv_at hl 1 rfl) ?_
        refine lv_icmp_eq (tgt := 1554) hx hb dL_law_1549 (by decide) (fun _ => ?_) (fun q => absurd et q)
        refine lv_iload hx hb dL_law_1554 (lv_at hl 1 rfl) ?_
        refine lv_if_ne (tgt := 1571) hx hb dL_law_1556 (by decide) (fun _ => ?_) (fun q => absurd q (ekn))
        refine lv_goto (tgt := 2175) hx hb dL_law_1571 (by decide) ?_
        exact W.widen (Nat.add_le_add_left (by decide) _) (Nat.add_le_add_left (by decide) _) (kk hR hP hD hS (lv_sub hl [2, 3, 4, 5, 6] rfl))
  · obtain ⟨out, mo, ef, em, hor⟩ := hp hR v1 (1 : Int32) xsB_1
    rcases hor with ⟨tt, eo, ea, et, hR⟩ | ⟨n, tt, eo, en, et, hR⟩
    · subst eo
      refine lv_aload_n hx hb dL_law_1490 rfl (lv_at hl 3 rfl) ?_
      refine lv_aload_n hx hb dL_law_1491 rfl (lv_at hl 4 rfl) ?_
      refine lv_iload hx hb dL_law_1492 (lv_at hl 0 rfl) ?_
      refine lv_iconst (v := (1 : Int32)) hx hb dL_law_1494 (by decide) ?_
      refine lv_iadd hx hb dL_law_1495 ?_
      refine xs_lld C hX hbz hbl hS hi1 dL_law_1496 ?_
      refine lv_aload_n hx hb dL_law_1497 rfl (lv_at hl 4 rfl) ?_
      refine lv_iload hx hb dL_law_1498 (lv_at hl 0 rfl) ?_
      refine lv_iconst (v := (2 : Int32)) hx hb dL_law_1500 (by decide) ?_
      refine lv_iadd hx hb dL_law_1501 ?_
      refine xs_lld C hX hbz hbl hS hi2 dL_law_1502 ?_
      refine lv_if_eq (tgt := 1510) hx hb dL_law_1503 (by decide) (fun q => absurd q hz) (fun _ => ?_)
      refine lv_iconst (v := (1 : Int32)) hx hb dL_law_1506 (by decide) ?_
      refine lv_goto (tgt := 1511) hx hb dL_law_1507 (by decide) ?_
      refine lv_aload_n hx hb dL_law_1511 rfl (lv_at hl 1 rfl) ?_
      refine xs_lcalli hS (xs_lrunS (As := [.ref (xsA X 0), .int v1, .int (1 : Int32), .ref (xsA X 131)]) (rest := []) C (mL_hull l hst (xs_eta (S 0)) ef (fun n tt h => by cases h)) w_1242 w_1243 w_104 w_1244 hd_L_hull (xsRmL hcs (by decide) (by decide) (by decide) (by decide)) hP hD hS hl.1 rfl (Nat.le_of_ble_eq_true rfl) dL_law_1512) (fun r u H locs hq hP hD hS => ?_)
      rcases hq with ⟨tx, e1, e2, e3⟩ | ⟨n, tx, e1, e2, e3⟩
      · cases e1
        subst e3
        subst e2
        refine lv_istore (lv' := [(5, .int 0), (4, .int i), (3, .ref (xsA X 131)), (2, .ref (xsA X 100)), (1, .ref (xsA X 0)), (0, .ref b)]) hx hb dL_law_1515 hl (by decide) rfl (fun ls hl => ?_)
        refine lv_aload_n hx hb dL_law_1517 rfl (lv_at hl 3 rfl) ?_
        refine lv_aload_n hx hb dL_law_1518 rfl (lv_at hl 5 rfl) ?_
        refine lv_iload hx hb dL_law_1519 (lv_at hl 1 rfl) ?_
        refine lv_iconst (v := (1 : Int32)) hx hb dL_law_1521 (by decide) ?_
        refine lv_iadd hx hb dL_law_1522 ?_
        refine xs_lld C hX hbz hbl hS hi1 dL_law_1523 ?_
        refine lv_aload_n hx hb dL_law_1524 rfl (lv_at hl 5 rfl) ?_
        refine lv_iload hx hb dL_law_1525 (lv_at hl 1 rfl) ?_
        refine lv_iconst (v := (2 : Int32)) hx hb dL_law_1527 (by decide) ?_
        refine lv_iadd hx hb dL_law_1528 ?_
        refine xs_lld C hX hbz hbl hS hi2 dL_law_1529 ?_
        refine lv_if_eq (tgt := 1537) hx hb dL_law_1530 (by decide) (fun q => absurd q hz) (fun _ => ?_)
        refine lv_iconst (v := (1 : Int32)) hx hb dL_law_1533 (by decide) ?_
        refine lv_goto (tgt := 1538) hx hb dL_law_1534 (by decide) ?_
        replace hP := xs_toM hP
        replace hD := xs_toMD hD
        refine xs_calli hS (xs_runV (As := [.int v1, .int (1 : Int32)]) (rest := []) C (mX11_hull l em) w_1867 w_1868 w_1869 w_115 w_1870 hd_X11_hull (xsRmB hcs (by decide) (by decide) (by decide) (by decide)) hP hD hS lk_X11 rfl hl.1 rfl (Nat.le_of_ble_eq_true rfl) dL_law_1538) (fun H locs hP hD hS => ?_)
        refine lv_istore (lv' := [(6, .int mo.1), (5, .int 0), (4, .int i), (3, .ref (xsA X 131)), (2, .ref (xsA X 100)), (1, .ref (xsA X 0)), (0, .ref b)]) hx hb dL_law_1541 hl (by decide) rfl (fun ls hl => ?_)
        refine lv_aload_n hx hb dL_law_1543 rfl (lv_at hl 4 rfl) ?_
        refine xs_calli hS (xs_runV (As := []) (rest := []) C (mX11_thrown l rfl) w_1343 w_1344 w_1345 w_115 w_1346 hd_X11_thrown (xsRmB hcs (by decide) (by decide) (by decide) (by decide)) hP hD hS lk_X11 rfl hl.1 rfl (Nat.le_of_ble_eq_true rfl) dL_law_1544) (fun H locs hP hD hS => ?_)
        replace hP := xs_toK hP
        replace hD := xs_toKD hD
        refine lv_iload hx hb dL_law_1547 (lv_at hl 1 rfl) ?_
        refine lv_icmp_eq (tgt := 1554) hx hb dL_law_1549 (by decide) (fun _ => ?_) (fun q => absurd et q)
        refine lv_iload hx hb dL_law_1554 (lv_at hl 1 rfl) ?_
        refine lv_if_ne (tgt := 1571) hx hb dL_law_1556 (by decide) (fun q => absurd rfl q) (fun _ => ?_)
        refine lv_aload_n hx hb dL_law_1559 rfl (lv_at hl 3 rfl) ?_
        refine lv_iconst (v := (0 : Int32)) hx hb dL_law_1560 (by decide) ?_
        refine xs_lald C hP (q0 := 99) rfl (vp_in_nI (n := 0) (by decide) (by decide)) dL_law_1561 ?_
        refine lv_iload hx hb dL_law_1562 (lv_at hl 0 rfl) ?_
        refine lv_i2l hx hb dL_law_1564 rfl ?_
        refine xs_lcmp_eq (tgt := 1571) C dL_law_1565 dL_law_1566 (by decide) (fun _ => ?_) (fun q => absurd (xs_ou0 (congrArg Int32.toInt64 ea)) q)
        refine lv_goto (tgt := 2175) hx hb dL_law_1571 (by decide) ?_
        exact W.widen (Nat.add_le_add_left (by decide) _) (Nat.add_le_add_left (by decide) _) (kk hR hP hD hS (lv_sub hl [2, 3, 4, 5, 6] rfl))
      · cases e1
    · subst eo
      refine lv_aload_n hx hb dL_law_1490 rfl (lv_at hl 3 rfl) ?_
      refine lv_aload_n hx hb dL_law_1491 rfl (lv_at hl 4 rfl) ?_
      refine lv_iload hx hb dL_law_1492 (lv_at hl 0 rfl) ?_
      refine lv_iconst (v := (1 : Int32)) hx hb dL_law_1494 (by decide) ?_
      refine lv_iadd hx hb dL_law_1495 ?_
      refine xs_lld C hX hbz hbl hS hi1 dL_law_1496 ?_
      refine lv_aload_n hx hb dL_law_1497 rfl (lv_at hl 4 rfl) ?_
      refine lv_iload hx hb dL_law_1498 (lv_at hl 0 rfl) ?_
      refine lv_iconst (v := (2 : Int32)) hx hb dL_law_1500 (by decide) ?_
      refine lv_iadd hx hb dL_law_1501 ?_
      refine xs_lld C hX hbz hbl hS hi2 dL_law_1502 ?_
      refine lv_if_eq (tgt := 1510) hx hb dL_law_1503 (by decide) (fun q => absurd q hz) (fun _ => ?_)
      refine lv_iconst (v := (1 : Int32)) hx hb dL_law_1506 (by decide) ?_
      refine lv_goto (tgt := 1511) hx hb dL_law_1507 (by decide) ?_
      refine lv_aload_n hx hb dL_law_1511 rfl (lv_at hl 1 rfl) ?_
      refine xs_lcalli hS (xs_lrunS (As := [.ref (xsA X 0), .int v1, .int (1 : Int32), .ref (xsA X 131)]) (rest := []) C (mL_hull l hst (xs_eta (S 0)) ef (fun n2 t2 h => by cases h; exact en)) w_1242 w_1243 w_104 w_1244 hd_L_hull (xsRmL hcs (by decide) (by decide) (by decide) (by decide)) hP hD hS hl.1 rfl (Nat.le_of_ble_eq_true rfl) dL_law_1512) (fun r u H locs hq hP hD hS => ?_)
      rcases hq with ⟨tx, e1, e2, e3⟩ | ⟨n2, tx, e1, e2, e3⟩
      · cases e1
      · cases e1
        subst e3
        have ekn : ¬ r = 0 := by rw [e2]; rw [en]; decide
        replace et := et.trans e2.symm
        refine lv_istore (lv' := [(5, .int r), (4, .int i), (3, .ref (xsA X 131)), (2, .ref (xsA X 100)), (1, .ref (xsA X 0)), (0, .ref b)]) hx hb dL_law_1515 hl (by decide) rfl (fun ls hl => ?_)
        refine lv_aload_n hx hb dL_law_1517 rfl (lv_at hl 3 rfl) ?_
        refine lv_aload_n hx hb dL_law_1518 rfl (lv_at hl 5 rfl) ?_
        refine lv_iload hx hb dL_law_1519 (lv_at hl 1 rfl) ?_
        refine lv_iconst (v := (1 : Int32)) hx hb dL_law_1521 (by decide) ?_
        refine lv_iadd hx hb dL_law_1522 ?_
        refine xs_lld C hX hbz hbl hS hi1 dL_law_1523 ?_
        refine lv_aload_n hx hb dL_law_1524 rfl (lv_at hl 5 rfl) ?_
        refine lv_iload hx hb dL_law_1525 (lv_at hl 1 rfl) ?_
        refine lv_iconst (v := (2 : Int32)) hx hb dL_law_1527 (by decide) ?_
        refine lv_iadd hx hb dL_law_1528 ?_
        refine xs_lld C hX hbz hbl hS hi2 dL_law_1529 ?_
        refine lv_if_eq (tgt := 1537) hx hb dL_law_1530 (by decide) (fun q => absurd q hz) (fun _ => ?_)
        refine lv_iconst (v := (1 : Int32)) hx hb dL_law_1533 (by decide) ?_
        refine lv_goto (tgt := 1538) hx hb dL_law_1534 (by decide) ?_
        replace hP := xs_toM hP
        replace hD := xs_toMD hD
        refine xs_calli hS (xs_runV (As := [.int v1, .int (1 : Int32)]) (rest := []) C (mX11_hull l em) w_1867 w_1868 w_1869 w_115 w_1870 hd_X11_hull (xsRmB hcs (by decide) (by decide) (by decide) (by decide)) hP hD hS lk_X11 rfl hl.1 rfl (Nat.le_of_ble_eq_true rfl) dL_law_1538) (fun H locs hP hD hS => ?_)
        refine lv_istore (lv' := [(6, .int mo.1), (5, .int r), (4, .int i), (3, .ref (xsA X 131)), (2, .ref (xsA X 100)), (1, .ref (xsA X 0)), (0, .ref b)]) hx hb dL_law_1541 hl (by decide) rfl (fun ls hl => ?_)
        refine lv_aload_n hx hb dL_law_1543 rfl (lv_at hl 4 rfl) ?_
        refine xs_calli hS (xs_runV (As := []) (rest := []) C (mX11_thrown l rfl) w_1343 w_1344 w_1345 w_115 w_1346 hd_X11_thrown (xsRmB hcs (by decide) (by decide) (by decide) (by decide)) hP hD hS lk_X11 rfl hl.1 rfl (Nat.le_of_ble_eq_true rfl) dL_law_1544) (fun H locs hP hD hS => ?_)
        replace hP := xs_toK hP
        replace hD := xs_toKD hD
        refine lv_iload hx hb dL_law_1547 (lv_at hl 1 rfl) ?_
        refine lv_icmp_eq (tgt := 1554) hx hb dL_law_1549 (by decide) (fun _ => ?_) (fun q => absurd et q)
        refine lv_iload hx hb dL_law_1554 (lv_at hl 1 rfl) ?_
        refine lv_if_ne (tgt := 1571) hx hb dL_law_1556 (by decide) (fun _ => ?_) (fun q => absurd q (ekn))
        refine lv_goto (tgt := 2175) hx hb dL_law_1571 (by decide) ?_
        exact W.widen (Nat.add_le_add_left (by decide) _) (Nat.add_le_add_left (by decide) _) (kk hR hP hD hS (lv_sub hl [2, 3, 4, 5, 6] rfl))
set_option maxRecDepth 100000 in
set_option maxHeartbeats 8000000 in
theorem lc_on {Rl : xsRel} (l : Launch) (hst : l.stackTraces = false) (hp : pc_on Rl) {i v1 v2 v3 v4 v5 : Int32} (C : xsC p s m c cL_law #[.ref b] RL 8 X) (hX : va_X b L xs s s.heap) (hbz : b < xsZ X) (hbl : b < s.heap.size) (hi1 : vp_in (i + 1) L ∧ xs (i + 1).toNatClampNeg = v1) (hi2 : vp_in (i + 2) L ∧ xs (i + 2).toNatClampNeg = v2) (hi3 : vp_in (i + 3) L ∧ xs (i + 3).toNatClampNeg = v3) (hi4 : vp_in (i + 4) L ∧ xs (i + 4).toNatClampNeg = v4) (hi5 : vp_in (i + 5) L ∧ xs (i + 5).toNatClampNeg = v5) (hcs : xsRmC C0 D0) (hP : va_P (xsD X) vwCl (wK X kIsKept kIsStale hiLatest hiSize scBytes scTold scLength scFault scAt scNumber piSegmentsNow enKind enX enY enLower enFromX enFromY enToX enToY tiTouching tiLyingAlong tiMeetingPairs tiAlongPairs tiSize evX evY evLower evBundle evCrossingOf evEventOf evLeftEvent evRightEvent evSize evCrossings evSegmentsNow grDegree grEdges grFar grQueue grQueued huX huY huSize huBestX huBestY S (xsOc X ou :: wM X mThrown mWorld mImage mDraft mEarlier mRemembered mHasImage mIsLaid mOne mTwo mShare mX mY mD mEventX mEventY mEventD mEvents mCrossingOf mBundle mEventOf mDegree mFrom mTo mCrossings mEdges mMet mUpper mLower mTape mTaped mPoint mEnd mBegin mFaultAt mFive mTold mActs mFar mViews mHullX mHullY mEndX mEndY mHeightUp mHeightLow mMeets mMeetsOf [])) H) (hD : va_D (xsF X) (wK X kIsKept kIsStale hiLatest hiSize scBytes scTold scLength scFault scAt scNumber piSegmentsNow enKind enX enY enLower enFromX enFromY enToX enToY tiTouching tiLyingAlong tiMeetingPairs tiAlongPairs tiSize evX evY evLower evBundle evCrossingOf evEventOf evLeftEvent evRightEvent evSize evCrossings evSegmentsNow grDegree grEdges grFar grQueue grQueued huX huY huSize huBestX huBestY S (xsOc X ou :: wM X mThrown mWorld mImage mDraft mEarlier mRemembered mHasImage mIsLaid mOne mTwo mShare mX mY mD mEventX mEventY mEventD mEvents mCrossingOf mBundle mEventOf mDegree mFrom mTo mCrossings mEdges mMet mUpper mLower mTape mTaped mPoint mEnd mBegin mFaultAt mFive mTold mActs mFar mViews mHullX mHullY mEndX mEndY mHeightUp mHeightLow mMeets mMeetsOf []))) (hS : va_S (xsF X) s.heap H locs) (hl : lv_has ls 8 [(4, .int i), (3, .ref (xsA X 131)), (2, .ref (xsA X 100)), (1, .ref (xsA X 0)), (0, .ref b)]) (hR : Rl kIsKept kIsStale hiLatest hiSize scBytes scTold scLength scFault scAt scNumber piSegmentsNow enKind enX enY enLower enFromX enFromY enToX enToY tiTouching tiLyingAlong tiMeetingPairs tiAlongPairs tiSize evX evY evLower evBundle evCrossingOf evEventOf evLeftEvent evRightEvent evSize evCrossings evSegmentsNow grDegree grEdges grFar grQueue grQueued huX huY huSize huBestX huBestY S mThrown mWorld mImage mDraft mEarlier mRemembered mHasImage mIsLaid mOne mTwo mShare mX mY mD mEventX mEventY mEventD mEvents mCrossingOf mBundle mEventOf mDegree mFrom mTo mCrossings mEdges mMet mUpper mLower mTape mTaped mPoint mEnd mBegin mFaultAt mFive mTold mActs mFar mViews mHullX mHullY mEndX mEndY mHeightUp mHeightLow mMeets mMeetsOf)
    (kk : ∀ {kIsKept kIsStale hiLatest hiSize scLength scFault scAt scNumber piSegmentsNow enKind enFromX enFromY enToX enToY tiMeetingPairs tiAlongPairs tiSize evSize evCrossings evSegmentsNow grEdges grQueued huSize huBestX huBestY : Int32} {scBytes scTold tiTouching tiLyingAlong evBundle evCrossingOf evEventOf evLeftEvent evRightEvent grDegree grFar grQueue huX huY : Nat → Int32} {enX enY enLower : Int64} {evX evY evLower : Nat → Int64} {S : Nat → xsV} {mThrown mRemembered mHasImage mIsLaid mEvents mCrossings mEdges mTaped mPoint mEnd mBegin mFaultAt mActs : Int32} {mWorld mImage mDraft mEarlier mOne mTwo mShare mCrossingOf mBundle mEventOf mDegree mFrom mTo mMet mTape mFive mTold mFar mViews mHullX mHullY mEndX mEndY mMeets mMeetsOf : Nat → Int32} {mX mY mD mHeightUp mHeightLow : Int64} {mEventX mEventY mEventD mUpper mLower : Nat → Int64} {ou : Nat → Int64} {ls : Array Slot} {H : Heap} {locs : List Loc}, Rl kIsKept kIsStale hiLatest hiSize scBytes scTold scLength scFault scAt scNumber piSegmentsNow enKind enX enY enLower enFromX enFromY enToX enToY tiTouching tiLyingAlong tiMeetingPairs tiAlongPairs tiSize evX evY evLower evBundle evCrossingOf evEventOf evLeftEvent evRightEvent evSize evCrossings evSegmentsNow grDegree grEdges grFar grQueue grQueued huX huY huSize huBestX huBestY S mThrown mWorld mImage mDraft mEarlier mRemembered mHasImage mIsLaid mOne mTwo mShare mX mY mD mEventX mEventY mEventD mEvents mCrossingOf mBundle mEventOf mDegree mFrom mTo mCrossings mEdges mMet mUpper mLower mTape mTaped mPoint mEnd mBegin mFaultAt mFive mTold mActs mFar mViews mHullX mHullY mEndX mEndY mHeightUp mHeightLow mMeets mMeetsOf → va_P (xsD X) vwCl (wK X kIsKept kIsStale hiLatest hiSize scBytes scTold scLength scFault scAt scNumber piSegmentsNow enKind enX enY enLower enFromX enFromY enToX enToY tiTouching tiLyingAlong tiMeetingPairs tiAlongPairs tiSize evX evY evLower evBundle evCrossingOf evEventOf evLeftEvent evRightEvent evSize evCrossings evSegmentsNow grDegree grEdges grFar grQueue grQueued huX huY huSize huBestX huBestY S (xsOc X ou :: wM X mThrown mWorld mImage mDraft mEarlier mRemembered mHasImage mIsLaid mOne mTwo mShare mX mY mD mEventX mEventY mEventD mEvents mCrossingOf mBundle mEventOf mDegree mFrom mTo mCrossings mEdges mMet mUpper mLower mTape mTaped mPoint mEnd mBegin mFaultAt mFive mTold mActs mFar mViews mHullX mHullY mEndX mEndY mHeightUp mHeightLow mMeets mMeetsOf [])) H → va_D (xsF X) (wK X kIsKept kIsStale hiLatest hiSize scBytes scTold scLength scFault scAt scNumber piSegmentsNow enKind enX enY enLower enFromX enFromY enToX enToY tiTouching tiLyingAlong tiMeetingPairs tiAlongPairs tiSize evX evY evLower evBundle evCrossingOf evEventOf evLeftEvent evRightEvent evSize evCrossings evSegmentsNow grDegree grEdges grFar grQueue grQueued huX huY huSize huBestX huBestY S (xsOc X ou :: wM X mThrown mWorld mImage mDraft mEarlier mRemembered mHasImage mIsLaid mOne mTwo mShare mX mY mD mEventX mEventY mEventD mEvents mCrossingOf mBundle mEventOf mDegree mFrom mTo mCrossings mEdges mMet mUpper mLower mTape mTaped mPoint mEnd mBegin mFaultAt mFive mTold mActs mFar mViews mHullX mHullY mEndX mEndY mHeightUp mHeightLow mMeets mMeetsOf [])) → va_S (xsF X) s.heap H locs → lv_has ls 8 [(4, .int i), (3, .ref (xsA X 131)), (2, .ref (xsA X 100)), (1, .ref (xsA X 0)), (0, .ref b)] → W p l e room_1 s m #[.ref b] below meth c H locs (C0 + 5) (D0 + 30) Q (F0 m 2175 ls [])) :
    W p l e room_1 s m #[.ref b] below meth c H locs C0 D0 Q (F0 m 1574 ls []) := by
  have hx := C.1
  have hb := C.2.1
  obtain ⟨out, mo, ef, em, hor⟩ := hp hR v1 v2
  rcases hor with ⟨tt, eo, ea, et, hR⟩ | ⟨n, tt, eo, en, et, hR⟩
  · subst eo
    refine lv_aload_n hx hb dL_law_1574 rfl (lv_at hl 3 rfl) ?_
    refine lv_aload_n hx hb dL_law_1575 rfl (lv_at hl 4 rfl) ?_
    refine lv_iload hx hb dL_law_1576 (lv_at hl 0 rfl) ?_
    refine lv_iconst (v := (1 : Int32)) hx hb dL_law_1578 (by decide) ?_
    refine lv_iadd hx hb dL_law_1579 ?_
    refine xs_lld C hX hbz hbl hS hi1 dL_law_1580 ?_
    refine lv_aload_n hx hb dL_law_1581 rfl (lv_at hl 4 rfl) ?_
    refine lv_iload hx hb dL_law_1582 (lv_at hl 0 rfl) ?_
    refine lv_iconst (v := (2 : Int32)) hx hb dL_law_1584 (by decide) ?_
    refine lv_iadd hx hb dL_law_1585 ?_
    refine xs_lld C hX hbz hbl hS hi2 dL_law_1586 ?_
    refine lv_aload_n hx hb dL_law_1587 rfl (lv_at hl 1 rfl) ?_
    refine xs_lcalli hS (xs_lrunS (As := [.ref (xsA X 0), .int v1, .int v2, .ref (xsA X 131)]) (rest := []) C (mL_on l hst (xs_eta (S 0)) ef (fun n tt h => by cases h)) w_1249 w_1250 w_104 w_1251 hd_L_on (xsRmL hcs (by decide) (by decide) (by decide) (by decide)) hP hD hS hl.1 rfl (Nat.le_of_ble_eq_true rfl) dL_law_1588) (fun r u H locs hq hP hD hS => ?_)
    rcases hq with ⟨tx, e1, e2, e3⟩ | ⟨n, tx, e1, e2, e3⟩
    · cases e1
      subst e3
      subst e2
      refine lv_istore (lv' := [(5, .int 0), (4, .int i), (3, .ref (xsA X 131)), (2, .ref (xsA X 100)), (1, .ref (xsA X 0)), (0, .ref b)]) hx hb dL_law_1591 hl (by decide) rfl (fun ls hl => ?_)
      refine lv_aload_n hx hb dL_law_1593 rfl (lv_at hl 3 rfl) ?_
      refine lv_aload_n hx hb dL_law_1594 rfl (lv_at hl 5 rfl) ?_
      refine lv_iload hx hb dL_law_1595 (lv_at hl 1 rfl) ?_
      refine lv_iconst (v := (1 : Int32)) hx hb dL_law_1597 (by decide) ?_
      refine lv_iadd hx hb dL_law_1598 ?_
      refine xs_lld C hX hbz hbl hS hi1 dL_law_1599 ?_
      refine lv_aload_n hx hb dL_law_1600 rfl (lv_at hl 5 rfl) ?_
      refine lv_iload hx hb dL_law_1601 (lv_at hl 1 rfl) ?_
      refine lv_iconst (v := (2 : Int32)) hx hb dL_law_1603 (by decide) ?_
      refine lv_iadd hx hb dL_law_1604 ?_
      refine xs_lld C hX hbz hbl hS hi2 dL_law_1605 ?_
      replace hP := xs_toM hP
      replace hD := xs_toMD hD
      refine xs_calli hS (xs_runV (As := [.int v1, .int v2]) (rest := []) C (mX11_on l em) w_1884 w_1885 w_1886 w_115 w_1887 hd_X11_on (xsRmB hcs (by decide) (by decide) (by decide) (by decide)) hP hD hS lk_X11 rfl hl.1 rfl (Nat.le_of_ble_eq_true rfl) dL_law_1606) (fun H locs hP hD hS => ?_)
      refine lv_istore (lv' := [(6, .int mo.1), (5, .int 0), (4, .int i), (3, .ref (xsA X 131)), (2, .ref (xsA X 100)), (1, .ref (xsA X 0)), (0, .ref b)]) hx hb dL_law_1609 hl (by decide) rfl (fun ls hl => ?_)
      refine lv_aload_n hx hb dL_law_1611 rfl (lv_at hl 4 rfl) ?_
      refine xs_calli hS (xs_runV (As := []) (rest := []) C (mX11_thrown l rfl) w_1343 w_1344 w_1345 w_115 w_1346 hd_X11_thrown (xsRmB hcs (by decide) (by decide) (by decide) (by decide)) hP hD hS lk_X11 rfl hl.1 rfl (Nat.le_of_ble_eq_true rfl) dL_law_1612) (fun H locs hP hD hS => ?_)
      replace hP := xs_toK hP
      replace hD := xs_toKD hD
      refine lv_iload hx hb dL_law_1615 (lv_at hl 1 rfl) ?_
      refine lv_icmp_eq (tgt := 1622) hx hb dL_law_1617 (by decide) (fun _ => ?_) (fun q => absurd et q)
      refine lv_iload hx hb dL_law_1622 (lv_at hl 1 rfl) ?_
      refine lv_if_ne (tgt := 1639) hx hb dL_law_1624 (by decide) (fun q => absurd rfl q) (fun _ => ?_)
      refine lv_aload_n hx hb dL_law_1627 rfl (lv_at hl 3 rfl) ?_
      refine lv_iconst (v := (0 : Int32)) hx hb dL_law_1628 (by decide) ?_
      refine xs_lald C hP (q0 := 99) rfl (vp_in_nI (n := 0) (by decide) (by decide)) dL_law_1629 ?_
      refine lv_iload hx hb dL_law_1630 (lv_at hl 0 rfl) ?_
      refine lv_i2l hx hb dL_law_1632 rfl ?_
      refine xs_lcmp_eq (tgt := 1639) C dL_law_1633 dL_law_1634 (by decide) (fun _ => ?_) (fun q => absurd (xs_ou0 (congrArg Int32.toInt64 ea)) q)
      refine lv_goto (tgt := 2175) hx hb dL_law_1639 (by decide) ?_
      exact W.widen (Nat.add_le_add_left (by decide) _) (Nat.add_le_add_left (by decide) _) (kk hR hP hD hS (lv_sub hl [2, 3, 4, 5, 6] rfl))
    · cases e1
  · subst eo
    refine lv_aload_n hx hb dL_law_1574 rfl (lv_at hl 3 rfl) ?_
    refine lv_aload_n hx hb dL_law_1575 rfl (lv_at hl 4 rfl) ?_
    refine lv_iload hx hb dL_law_1576 (lv_at hl 0 rfl) ?_
    refine lv_iconst (v := (1 : Int32)) hx hb dL_law_1578 (by decide) ?_
    refine lv_iadd hx hb dL_law_1579 ?_
    refine xs_lld C hX hbz hbl hS hi1 dL_law_1580 ?_
    refine lv_aload_n hx hb dL_law_1581 rfl (lv_at hl 4 rfl) ?_
    refine lv_iload hx hb dL_law_1582 (lv_at hl 0 rfl) ?_
    refine lv_iconst (v := (2 : Int32)) hx hb dL_law_1584 (by decide) ?_
    refine lv_iadd hx hb dL_law_1585 ?_
    refine xs_lld C hX hbz hbl hS hi2 dL_law_1586 ?_
    refine lv_aload_n hx hb dL_law_1587 rfl (lv_at hl 1 rfl) ?_
    refine xs_lcalli hS (xs_lrunS (As := [.ref (xsA X 0), .int v1, .int v2, .ref (xsA X 131)]) (rest := []) C (mL_on l hst (xs_eta (S 0)) ef (fun n2 t2 h => by cases h; exact en)) w_1249 w_1250 w_104 w_1251 hd_L_on (xsRmL hcs (by decide) (by decide) (by decide) (by decide)) hP hD hS hl.1 rfl (Nat.le_of_ble_eq_true rfl) dL_law_1588) (fun r u H locs hq hP hD hS => ?_)
    rcases hq with ⟨tx, e1, e2, e3⟩ | ⟨n2, tx, e1, e2, e3⟩
    · cases e1
    · cases e1
      subst e3
      have ekn : ¬ r = 0 := by rw [e2]; rw [en]; decide
      replace et := et.trans e2.symm
      refine lv_istore (lv' := [(5, .int r), (4, .int i), (3, .ref (xsA X 131)), (2, .ref (xsA X 100)), (1, .ref (xsA X 0)), (0, .ref b)]) hx hb dL_law_1591 hl (by decide) rfl (fun ls hl => ?_)
      refine lv_aload_n hx hb dL_law_1593 rfl (lv_at hl 3 rfl) ?_
      refine lv_aload_n hx hb dL_law_1594 rfl (lv_at hl 5 rfl) ?_
      refine lv_iload hx hb dL_law_1595 (lv_at hl 1 rfl) ?_
      refine lv_iconst (v := (1 : Int32)) hx hb dL_law_1597 (by decide) ?_
      refine lv_iadd hx hb dL_law_1598 ?_
      refine xs_lld C hX hbz hbl hS hi1 dL_law_1599 ?_
      refine lv_aload_n hx hb dL_law_1600 rfl (lv_at hl 5 rfl) ?_
      refine lv_iload hx hb dL_law_1601 (lv_at hl 1 rfl) ?_
      refine lv_iconst (v := (2 : Int32)) hx hb dL_law_1603 (by decide) ?_
      refine lv_iadd hx hb dL_law_1604 ?_
      refine xs_lld C hX hbz hbl hS hi2 dL_law_1605 ?_
      replace hP := xs_toM hP
      replace hD := xs_toMD hD
      refine xs_calli hS (xs_runV (As := [.int v1, .int v2]) (rest := []) C (mX11_on l em) w_1884 w_1885 w_1886 w_115 w_1887 hd_X11_on (xsRmB hcs (by decide) (by decide) (by decide) (by decide)) hP hD hS lk_X11 rfl hl.1 rfl (Nat.le_of_ble_eq_true rfl) dL_law_1606) (fun H locs hP hD hS => ?_)
      refine lv_istore (lv' := [(6, .int mo.1), (5, .int r), (4, .int i), (3, .ref (xsA X 131)), (2, .ref (xsA X 100)), (1, .ref (xsA X 0)), (0, .ref b)]) hx hb dL_law_1609 hl (by decide) rfl (fun ls hl => ?_)
      refine lv_aload_n hx hb dL_law_1611 rfl (lv_at hl 4 rfl) ?_
      refine xs_calli hS (xs_runV (As := []) (rest := []) C (mX11_thrown l rfl) w_1343 w_1344 w_1345 w_115 w_1346 hd_X11_thrown (xsRmB hcs (by decide) (by decide) (by decide) (by decide)) hP hD hS lk_X11 rfl hl.1 rfl (Nat.le_of_ble_eq_true rfl) dL_law_1612) (fun H locs hP hD hS => ?_)
      replace hP := xs_toK hP
      replace hD := xs_toKD hD
      refine lv_iload hx hb dL_law_1615 (lv_at hl 1 rfl) ?_
      refine lv_icmp_eq (tgt := 1622) hx hb dL_law_1617 (by decide) (fun _ => ?_) (fun q => absurd et q)
      refine lv_iload hx hb dL_law_1622 (lv_at hl 1 rfl) ?_
      refine lv_if_ne (tgt := 1639) hx hb dL_law_1624 (by decide) (fun _ => ?_) (fun q => absurd q (ekn))
      refine lv_goto (tgt := 2175) hx hb dL_law_1639 (by decide) ?_
      exact W.widen (Nat.add_le_add_left (by decide) _) (Nat.add_le_add_left (by decide) _) (kk hR hP hD hS (lv_sub hl [2, 3, 4, 5, 6] rfl))
set_option maxRecDepth 100000 in
set_option maxHeartbeats 8000000 in
theorem lc_at {Rl : xsRel} (l : Launch) (hst : l.stackTraces = false) (hp : pc_at Rl) {i v1 v2 v3 v4 v5 : Int32} (C : xsC p s m c cL_law #[.ref b] RL 8 X) (hX : va_X b L xs s s.heap) (hbz : b < xsZ X) (hbl : b < s.heap.size) (hi1 : vp_in (i + 1) L ∧ xs (i + 1).toNatClampNeg = v1) (hi2 : vp_in (i + 2) L ∧ xs (i + 2).toNatClampNeg = v2) (hi3 : vp_in (i + 3) L ∧ xs (i + 3).toNatClampNeg = v3) (hi4 : vp_in (i + 4) L ∧ xs (i + 4).toNatClampNeg = v4) (hi5 : vp_in (i + 5) L ∧ xs (i + 5).toNatClampNeg = v5) (hcs : xsRmC C0 D0) (hP : va_P (xsD X) vwCl (wK X kIsKept kIsStale hiLatest hiSize scBytes scTold scLength scFault scAt scNumber piSegmentsNow enKind enX enY enLower enFromX enFromY enToX enToY tiTouching tiLyingAlong tiMeetingPairs tiAlongPairs tiSize evX evY evLower evBundle evCrossingOf evEventOf evLeftEvent evRightEvent evSize evCrossings evSegmentsNow grDegree grEdges grFar grQueue grQueued huX huY huSize huBestX huBestY S (xsOc X ou :: wM X mThrown mWorld mImage mDraft mEarlier mRemembered mHasImage mIsLaid mOne mTwo mShare mX mY mD mEventX mEventY mEventD mEvents mCrossingOf mBundle mEventOf mDegree mFrom mTo mCrossings mEdges mMet mUpper mLower mTape mTaped mPoint mEnd mBegin mFaultAt mFive mTold mActs mFar mViews mHullX mHullY mEndX mEndY mHeightUp mHeightLow mMeets mMeetsOf [])) H) (hD : va_D (xsF X) (wK X kIsKept kIsStale hiLatest hiSize scBytes scTold scLength scFault scAt scNumber piSegmentsNow enKind enX enY enLower enFromX enFromY enToX enToY tiTouching tiLyingAlong tiMeetingPairs tiAlongPairs tiSize evX evY evLower evBundle evCrossingOf evEventOf evLeftEvent evRightEvent evSize evCrossings evSegmentsNow grDegree grEdges grFar grQueue grQueued huX huY huSize huBestX huBestY S (xsOc X ou :: wM X mThrown mWorld mImage mDraft mEarlier mRemembered mHasImage mIsLaid mOne mTwo mShare mX mY mD mEventX mEventY mEventD mEvents mCrossingOf mBundle mEventOf mDegree mFrom mTo mCrossings mEdges mMet mUpper mLower mTape mTaped mPoint mEnd mBegin mFaultAt mFive mTold mActs mFar mViews mHullX mHullY mEndX mEndY mHeightUp mHeightLow mMeets mMeetsOf []))) (hS : va_S (xsF X) s.heap H locs) (hl : lv_has ls 8 [(4, .int i), (3, .ref (xsA X 131)), (2, .ref (xsA X 100)), (1, .ref (xsA X 0)), (0, .ref b)]) (hR : Rl kIsKept kIsStale hiLatest hiSize scBytes scTold scLength scFault scAt scNumber piSegmentsNow enKind enX enY enLower enFromX enFromY enToX enToY tiTouching tiLyingAlong tiMeetingPairs tiAlongPairs tiSize evX evY evLower evBundle evCrossingOf evEventOf evLeftEvent evRightEvent evSize evCrossings evSegmentsNow grDegree grEdges grFar grQueue grQueued huX huY huSize huBestX huBestY S mThrown mWorld mImage mDraft mEarlier mRemembered mHasImage mIsLaid mOne mTwo mShare mX mY mD mEventX mEventY mEventD mEvents mCrossingOf mBundle mEventOf mDegree mFrom mTo mCrossings mEdges mMet mUpper mLower mTape mTaped mPoint mEnd mBegin mFaultAt mFive mTold mActs mFar mViews mHullX mHullY mEndX mEndY mHeightUp mHeightLow mMeets mMeetsOf)
    (kk : ∀ {kIsKept kIsStale hiLatest hiSize scLength scFault scAt scNumber piSegmentsNow enKind enFromX enFromY enToX enToY tiMeetingPairs tiAlongPairs tiSize evSize evCrossings evSegmentsNow grEdges grQueued huSize huBestX huBestY : Int32} {scBytes scTold tiTouching tiLyingAlong evBundle evCrossingOf evEventOf evLeftEvent evRightEvent grDegree grFar grQueue huX huY : Nat → Int32} {enX enY enLower : Int64} {evX evY evLower : Nat → Int64} {S : Nat → xsV} {mThrown mRemembered mHasImage mIsLaid mEvents mCrossings mEdges mTaped mPoint mEnd mBegin mFaultAt mActs : Int32} {mWorld mImage mDraft mEarlier mOne mTwo mShare mCrossingOf mBundle mEventOf mDegree mFrom mTo mMet mTape mFive mTold mFar mViews mHullX mHullY mEndX mEndY mMeets mMeetsOf : Nat → Int32} {mX mY mD mHeightUp mHeightLow : Int64} {mEventX mEventY mEventD mUpper mLower : Nat → Int64} {ou : Nat → Int64} {ls : Array Slot} {H : Heap} {locs : List Loc}, Rl kIsKept kIsStale hiLatest hiSize scBytes scTold scLength scFault scAt scNumber piSegmentsNow enKind enX enY enLower enFromX enFromY enToX enToY tiTouching tiLyingAlong tiMeetingPairs tiAlongPairs tiSize evX evY evLower evBundle evCrossingOf evEventOf evLeftEvent evRightEvent evSize evCrossings evSegmentsNow grDegree grEdges grFar grQueue grQueued huX huY huSize huBestX huBestY S mThrown mWorld mImage mDraft mEarlier mRemembered mHasImage mIsLaid mOne mTwo mShare mX mY mD mEventX mEventY mEventD mEvents mCrossingOf mBundle mEventOf mDegree mFrom mTo mCrossings mEdges mMet mUpper mLower mTape mTaped mPoint mEnd mBegin mFaultAt mFive mTold mActs mFar mViews mHullX mHullY mEndX mEndY mHeightUp mHeightLow mMeets mMeetsOf → va_P (xsD X) vwCl (wK X kIsKept kIsStale hiLatest hiSize scBytes scTold scLength scFault scAt scNumber piSegmentsNow enKind enX enY enLower enFromX enFromY enToX enToY tiTouching tiLyingAlong tiMeetingPairs tiAlongPairs tiSize evX evY evLower evBundle evCrossingOf evEventOf evLeftEvent evRightEvent evSize evCrossings evSegmentsNow grDegree grEdges grFar grQueue grQueued huX huY huSize huBestX huBestY S (xsOc X ou :: wM X mThrown mWorld mImage mDraft mEarlier mRemembered mHasImage mIsLaid mOne mTwo mShare mX mY mD mEventX mEventY mEventD mEvents mCrossingOf mBundle mEventOf mDegree mFrom mTo mCrossings mEdges mMet mUpper mLower mTape mTaped mPoint mEnd mBegin mFaultAt mFive mTold mActs mFar mViews mHullX mHullY mEndX mEndY mHeightUp mHeightLow mMeets mMeetsOf [])) H → va_D (xsF X) (wK X kIsKept kIsStale hiLatest hiSize scBytes scTold scLength scFault scAt scNumber piSegmentsNow enKind enX enY enLower enFromX enFromY enToX enToY tiTouching tiLyingAlong tiMeetingPairs tiAlongPairs tiSize evX evY evLower evBundle evCrossingOf evEventOf evLeftEvent evRightEvent evSize evCrossings evSegmentsNow grDegree grEdges grFar grQueue grQueued huX huY huSize huBestX huBestY S (xsOc X ou :: wM X mThrown mWorld mImage mDraft mEarlier mRemembered mHasImage mIsLaid mOne mTwo mShare mX mY mD mEventX mEventY mEventD mEvents mCrossingOf mBundle mEventOf mDegree mFrom mTo mCrossings mEdges mMet mUpper mLower mTape mTaped mPoint mEnd mBegin mFaultAt mFive mTold mActs mFar mViews mHullX mHullY mEndX mEndY mHeightUp mHeightLow mMeets mMeetsOf [])) → va_S (xsF X) s.heap H locs → lv_has ls 8 [(4, .int i), (3, .ref (xsA X 131)), (2, .ref (xsA X 100)), (1, .ref (xsA X 0)), (0, .ref b)] → W p l e room_1 s m #[.ref b] below meth c H locs (C0 + 5) (D0 + 30) Q (F0 m 2175 ls [])) :
    W p l e room_1 s m #[.ref b] below meth c H locs C0 D0 Q (F0 m 1642 ls []) := by
  have hx := C.1
  have hb := C.2.1
  obtain ⟨out, mo, ef, em, hor⟩ := hp hR v1 v2
  rcases hor with ⟨tt, eo, ea, et, hR⟩ | ⟨n, tt, eo, en, et, hR⟩
  · subst eo
    refine lv_aload_n hx hb dL_law_1642 rfl (lv_at hl 3 rfl) ?_
    refine lv_aload_n hx hb dL_law_1643 rfl (lv_at hl 4 rfl) ?_
    refine lv_iload hx hb dL_law_1644 (lv_at hl 0 rfl) ?_
    refine lv_iconst (v := (1 : Int32)) hx hb dL_law_1646 (by decide) ?_
    refine lv_iadd hx hb dL_law_1647 ?_
    refine xs_lld C hX hbz hbl hS hi1 dL_law_1648 ?_
    refine lv_aload_n hx hb dL_law_1649 rfl (lv_at hl 4 rfl) ?_
    refine lv_iload hx hb dL_law_1650 (lv_at hl 0 rfl) ?_
    refine lv_iconst (v := (2 : Int32)) hx hb dL_law_1652 (by decide) ?_
    refine lv_iadd hx hb dL_law_1653 ?_
    refine xs_lld C hX hbz hbl hS hi2 dL_law_1654 ?_
    refine lv_aload_n hx hb dL_law_1655 rfl (lv_at hl 1 rfl) ?_
    refine xs_lcalli hS (xs_lrunS (As := [.ref (xsA X 0), .int v1, .int v2, .ref (xsA X 131)]) (rest := []) C (mL_at l hst (xs_eta (S 0)) ef (fun n tt h => by cases h)) w_1256 w_1257 w_104 w_1258 hd_L_at (xsRmL hcs (by decide) (by decide) (by decide) (by decide)) hP hD hS hl.1 rfl (Nat.le_of_ble_eq_true rfl) dL_law_1656) (fun r u H locs hq hP hD hS => ?_)
    rcases hq with ⟨tx, e1, e2, e3⟩ | ⟨n, tx, e1, e2, e3⟩
    · cases e1
      subst e3
      subst e2
      refine lv_istore (lv' := [(5, .int 0), (4, .int i), (3, .ref (xsA X 131)), (2, .ref (xsA X 100)), (1, .ref (xsA X 0)), (0, .ref b)]) hx hb dL_law_1659 hl (by decide) rfl (fun ls hl => ?_)
      refine lv_aload_n hx hb dL_law_1661 rfl (lv_at hl 3 rfl) ?_
      refine lv_aload_n hx hb dL_law_1662 rfl (lv_at hl 5 rfl) ?_
      refine lv_iload hx hb dL_law_1663 (lv_at hl 1 rfl) ?_
      refine lv_iconst (v := (1 : Int32)) hx hb dL_law_1665 (by decide) ?_
      refine lv_iadd hx hb dL_law_1666 ?_
      refine xs_lld C hX hbz hbl hS hi1 dL_law_1667 ?_
      refine lv_aload_n hx hb dL_law_1668 rfl (lv_at hl 5 rfl) ?_
      refine lv_iload hx hb dL_law_1669 (lv_at hl 1 rfl) ?_
      refine lv_iconst (v := (2 : Int32)) hx hb dL_law_1671 (by decide) ?_
      refine lv_iadd hx hb dL_law_1672 ?_
      refine xs_lld C hX hbz hbl hS hi2 dL_law_1673 ?_
      replace hP := xs_toM hP
      replace hD := xs_toMD hD
      refine xs_calli hS (xs_runV (As := [.int v1, .int v2]) (rest := []) C (mX11_at l em) w_1888 w_1889 w_1890 w_115 w_1891 hd_X11_at (xsRmB hcs (by decide) (by decide) (by decide) (by decide)) hP hD hS lk_X11 rfl hl.1 rfl (Nat.le_of_ble_eq_true rfl) dL_law_1674) (fun H locs hP hD hS => ?_)
      refine lv_istore (lv' := [(6, .int mo.1), (5, .int 0), (4, .int i), (3, .ref (xsA X 131)), (2, .ref (xsA X 100)), (1, .ref (xsA X 0)), (0, .ref b)]) hx hb dL_law_1677 hl (by decide) rfl (fun ls hl => ?_)
      refine lv_aload_n hx hb dL_law_1679 rfl (lv_at hl 4 rfl) ?_
      refine xs_calli hS (xs_runV (As := []) (rest := []) C (mX11_thrown l rfl) w_1343 w_1344 w_1345 w_115 w_1346 hd_X11_thrown (xsRmB hcs (by decide) (by decide) (by decide) (by decide)) hP hD hS lk_X11 rfl hl.1 rfl (Nat.le_of_ble_eq_true rfl) dL_law_1680) (fun H locs hP hD hS => ?_)
      replace hP := xs_toK hP
      replace hD := xs_toKD hD
      refine lv_iload hx hb dL_law_1683 (lv_at hl 1 rfl) ?_
      refine lv_icmp_eq (tgt := 1690) hx hb dL_law_1685 (by decide) (fun _ => ?_) (fun q => absurd et q)
      refine lv_iload hx hb dL_law_1690 (lv_at hl 1 rfl) ?_
      refine lv_if_ne (tgt := 1707) hx hb dL_law_1692 (by decide) (fun q => absurd rfl q) (fun _ => ?_)
      refine lv_aload_n hx hb dL_law_1695 rfl (lv_at hl 3 rfl) ?_
      refine lv_iconst (v := (0 : Int32)) hx hb dL_law_1696 (by decide) ?_
      refine xs_lald C hP (q0 := 99) rfl (vp_in_nI (n := 0) (by decide) (by decide)) dL_law_1697 ?_
      refine lv_iload hx hb dL_law_1698 (lv_at hl 0 rfl) ?_
      refine lv_i2l hx hb dL_law_1700 rfl ?_
      refine xs_lcmp_eq (tgt := 1707) C dL_law_1701 dL_law_1702 (by decide) (fun _ => ?_) (fun q => absurd (xs_ou0 (congrArg Int32.toInt64 ea)) q)
      refine lv_goto (tgt := 2175) hx hb dL_law_1707 (by decide) ?_
      exact W.widen (Nat.add_le_add_left (by decide) _) (Nat.add_le_add_left (by decide) _) (kk hR hP hD hS (lv_sub hl [2, 3, 4, 5, 6] rfl))
    · cases e1
  · subst eo
    refine lv_aload_n hx hb dL_law_1642 rfl (lv_at hl 3 rfl) ?_
    refine lv_aload_n hx hb dL_law_1643 rfl (lv_at hl 4 rfl) ?_
    refine lv_iload hx hb dL_law_1644 (lv_at hl 0 rfl) ?_
    refine lv_iconst (v := (1 : Int32)) hx hb dL_law_1646 (by decide) ?_
    refine lv_iadd hx hb dL_law_1647 ?_
    refine xs_lld C hX hbz hbl hS hi1 dL_law_1648 ?_
    refine lv_aload_n hx hb dL_law_1649 rfl (lv_at hl 4 rfl) ?_
    refine lv_iload hx hb dL_law_1650 (lv_at hl 0 rfl) ?_
    refine lv_iconst (v := (2 : Int32)) hx hb dL_law_1652 (by decide) ?_
    refine lv_iadd hx hb dL_law_1653 ?_
    refine xs_lld C hX hbz hbl hS hi2 dL_law_1654 ?_
    refine lv_aload_n hx hb dL_law_1655 rfl (lv_at hl 1 rfl) ?_
    refine xs_lcalli hS (xs_lrunS (As := [.ref (xsA X 0), .int v1, .int v2, .ref (xsA X 131)]) (rest := []) C (mL_at l hst (xs_eta (S 0)) ef (fun n2 t2 h => by cases h; exact en)) w_1256 w_1257 w_104 w_1258 hd_L_at (xsRmL hcs (by decide) (by decide) (by decide) (by decide)) hP hD hS hl.1 rfl (Nat.le_of_ble_eq_true rfl) dL_law_1656) (fun r u H locs hq hP hD hS => ?_)
    rcases hq with ⟨tx, e1, e2, e3⟩ | ⟨n2, tx, e1, e2, e3⟩
    · cases e1
    · cases e1
      subst e3
      have ekn : ¬ r = 0 := by rw [e2]; rw [en]; decide
      replace et := et.trans e2.symm
      refine lv_istore (lv' := [(5, .int r), (4, .int i), (3, .ref (xsA X 131)), (2, .ref (xsA X 100)), (1, .ref (xsA X 0)), (0, .ref b)]) hx hb dL_law_1659 hl (by decide) rfl (fun ls hl => ?_)
      refine lv_aload_n hx hb dL_law_1661 rfl (lv_at hl 3 rfl) ?_
      refine lv_aload_n hx hb dL_law_1662 rfl (lv_at hl 5 rfl) ?_
      refine lv_iload hx hb dL_law_1663 (lv_at hl 1 rfl) ?_
      refine lv_iconst (v := (1 : Int32)) hx hb dL_law_1665 (by decide) ?_
      refine lv_iadd hx hb dL_law_1666 ?_
      refine xs_lld C hX hbz hbl hS hi1 dL_law_1667 ?_
      refine lv_aload_n hx hb dL_law_1668 rfl (lv_at hl 5 rfl) ?_
      refine lv_iload hx hb dL_law_1669 (lv_at hl 1 rfl) ?_
      refine lv_iconst (v := (2 : Int32)) hx hb dL_law_1671 (by decide) ?_
      refine lv_iadd hx hb dL_law_1672 ?_
      refine xs_lld C hX hbz hbl hS hi2 dL_law_1673 ?_
      replace hP := xs_toM hP
      replace hD := xs_toMD hD
      refine xs_calli hS (xs_runV (As := [.int v1, .int v2]) (rest := []) C (mX11_at l em) w_1888 w_1889 w_1890 w_115 w_1891 hd_X11_at (xsRmB hcs (by decide) (by decide) (by decide) (by decide)) hP hD hS lk_X11 rfl hl.1 rfl (Nat.le_of_ble_eq_true rfl) dL_law_1674) (fun H locs hP hD hS => ?_)
      refine lv_istore (lv' := [(6, .int mo.1), (5, .int r), (4, .int i), (3, .ref (xsA X 131)), (2, .ref (xsA X 100)), (1, .ref (xsA X 0)), (0, .ref b)]) hx hb dL_law_1677 hl (by decide) rfl (fun ls hl => ?_)
      refine lv_aload_n hx hb dL_law_1679 rfl (lv_at hl 4 rfl) ?_
      refine xs_calli hS (xs_runV (As := []) (rest := []) C (mX11_thrown l rfl) w_1343 w_1344 w_1345 w_115 w_1346 hd_X11_thrown (xsRmB hcs (by decide) (by decide) (by decide) (by decide)) hP hD hS lk_X11 rfl hl.1 rfl (Nat.le_of_ble_eq_true rfl) dL_law_1680) (fun H locs hP hD hS => ?_)
      replace hP := xs_toK hP
      replace hD := xs_toKD hD
      refine lv_iload hx hb dL_law_1683 (lv_at hl 1 rfl) ?_
      refine lv_icmp_eq (tgt := 1690) hx hb dL_law_1685 (by decide) (fun _ => ?_) (fun q => absurd et q)
      refine lv_iload hx hb dL_law_1690 (lv_at hl 1 rfl) ?_
      refine lv_if_ne (tgt := 1707) hx hb dL_law_1692 (by decide) (fun _ => ?_) (fun q => absurd q (ekn))
      refine lv_goto (tgt := 2175) hx hb dL_law_1707 (by decide) ?_
      exact W.widen (Nat.add_le_add_left (by decide) _) (Nat.add_le_add_left (by decide) _) (kk hR hP hD hS (lv_sub hl [2, 3, 4, 5, 6] rfl))
set_option maxRecDepth 100000 in
set_option maxHeartbeats 8000000 in
theorem lc_next {Rl : xsRel} (l : Launch) (hst : l.stackTraces = false) (hp : pc_next Rl) {i v1 v2 v3 v4 v5 : Int32} (C : xsC p s m c cL_law #[.ref b] RL 8 X) (hX : va_X b L xs s s.heap) (hbz : b < xsZ X) (hbl : b < s.heap.size) (hi1 : vp_in (i + 1) L ∧ xs (i + 1).toNatClampNeg = v1) (hi2 : vp_in (i + 2) L ∧ xs (i + 2).toNatClampNeg = v2) (hi3 : vp_in (i + 3) L ∧ xs (i + 3).toNatClampNeg = v3) (hi4 : vp_in (i + 4) L ∧ xs (i + 4).toNatClampNeg = v4) (hi5 : vp_in (i + 5) L ∧ xs (i + 5).toNatClampNeg = v5) (hcs : xsRmC C0 D0) (hP : va_P (xsD X) vwCl (wK X kIsKept kIsStale hiLatest hiSize scBytes scTold scLength scFault scAt scNumber piSegmentsNow enKind enX enY enLower enFromX enFromY enToX enToY tiTouching tiLyingAlong tiMeetingPairs tiAlongPairs tiSize evX evY evLower evBundle evCrossingOf evEventOf evLeftEvent evRightEvent evSize evCrossings evSegmentsNow grDegree grEdges grFar grQueue grQueued huX huY huSize huBestX huBestY S (xsOc X ou :: wM X mThrown mWorld mImage mDraft mEarlier mRemembered mHasImage mIsLaid mOne mTwo mShare mX mY mD mEventX mEventY mEventD mEvents mCrossingOf mBundle mEventOf mDegree mFrom mTo mCrossings mEdges mMet mUpper mLower mTape mTaped mPoint mEnd mBegin mFaultAt mFive mTold mActs mFar mViews mHullX mHullY mEndX mEndY mHeightUp mHeightLow mMeets mMeetsOf [])) H) (hD : va_D (xsF X) (wK X kIsKept kIsStale hiLatest hiSize scBytes scTold scLength scFault scAt scNumber piSegmentsNow enKind enX enY enLower enFromX enFromY enToX enToY tiTouching tiLyingAlong tiMeetingPairs tiAlongPairs tiSize evX evY evLower evBundle evCrossingOf evEventOf evLeftEvent evRightEvent evSize evCrossings evSegmentsNow grDegree grEdges grFar grQueue grQueued huX huY huSize huBestX huBestY S (xsOc X ou :: wM X mThrown mWorld mImage mDraft mEarlier mRemembered mHasImage mIsLaid mOne mTwo mShare mX mY mD mEventX mEventY mEventD mEvents mCrossingOf mBundle mEventOf mDegree mFrom mTo mCrossings mEdges mMet mUpper mLower mTape mTaped mPoint mEnd mBegin mFaultAt mFive mTold mActs mFar mViews mHullX mHullY mEndX mEndY mHeightUp mHeightLow mMeets mMeetsOf []))) (hS : va_S (xsF X) s.heap H locs) (hl : lv_has ls 8 [(4, .int i), (3, .ref (xsA X 131)), (2, .ref (xsA X 100)), (1, .ref (xsA X 0)), (0, .ref b)]) (hR : Rl kIsKept kIsStale hiLatest hiSize scBytes scTold scLength scFault scAt scNumber piSegmentsNow enKind enX enY enLower enFromX enFromY enToX enToY tiTouching tiLyingAlong tiMeetingPairs tiAlongPairs tiSize evX evY evLower evBundle evCrossingOf evEventOf evLeftEvent evRightEvent evSize evCrossings evSegmentsNow grDegree grEdges grFar grQueue grQueued huX huY huSize huBestX huBestY S mThrown mWorld mImage mDraft mEarlier mRemembered mHasImage mIsLaid mOne mTwo mShare mX mY mD mEventX mEventY mEventD mEvents mCrossingOf mBundle mEventOf mDegree mFrom mTo mCrossings mEdges mMet mUpper mLower mTape mTaped mPoint mEnd mBegin mFaultAt mFive mTold mActs mFar mViews mHullX mHullY mEndX mEndY mHeightUp mHeightLow mMeets mMeetsOf)
    (kk : ∀ {kIsKept kIsStale hiLatest hiSize scLength scFault scAt scNumber piSegmentsNow enKind enFromX enFromY enToX enToY tiMeetingPairs tiAlongPairs tiSize evSize evCrossings evSegmentsNow grEdges grQueued huSize huBestX huBestY : Int32} {scBytes scTold tiTouching tiLyingAlong evBundle evCrossingOf evEventOf evLeftEvent evRightEvent grDegree grFar grQueue huX huY : Nat → Int32} {enX enY enLower : Int64} {evX evY evLower : Nat → Int64} {S : Nat → xsV} {mThrown mRemembered mHasImage mIsLaid mEvents mCrossings mEdges mTaped mPoint mEnd mBegin mFaultAt mActs : Int32} {mWorld mImage mDraft mEarlier mOne mTwo mShare mCrossingOf mBundle mEventOf mDegree mFrom mTo mMet mTape mFive mTold mFar mViews mHullX mHullY mEndX mEndY mMeets mMeetsOf : Nat → Int32} {mX mY mD mHeightUp mHeightLow : Int64} {mEventX mEventY mEventD mUpper mLower : Nat → Int64} {ou : Nat → Int64} {ls : Array Slot} {H : Heap} {locs : List Loc}, Rl kIsKept kIsStale hiLatest hiSize scBytes scTold scLength scFault scAt scNumber piSegmentsNow enKind enX enY enLower enFromX enFromY enToX enToY tiTouching tiLyingAlong tiMeetingPairs tiAlongPairs tiSize evX evY evLower evBundle evCrossingOf evEventOf evLeftEvent evRightEvent evSize evCrossings evSegmentsNow grDegree grEdges grFar grQueue grQueued huX huY huSize huBestX huBestY S mThrown mWorld mImage mDraft mEarlier mRemembered mHasImage mIsLaid mOne mTwo mShare mX mY mD mEventX mEventY mEventD mEvents mCrossingOf mBundle mEventOf mDegree mFrom mTo mCrossings mEdges mMet mUpper mLower mTape mTaped mPoint mEnd mBegin mFaultAt mFive mTold mActs mFar mViews mHullX mHullY mEndX mEndY mHeightUp mHeightLow mMeets mMeetsOf → va_P (xsD X) vwCl (wK X kIsKept kIsStale hiLatest hiSize scBytes scTold scLength scFault scAt scNumber piSegmentsNow enKind enX enY enLower enFromX enFromY enToX enToY tiTouching tiLyingAlong tiMeetingPairs tiAlongPairs tiSize evX evY evLower evBundle evCrossingOf evEventOf evLeftEvent evRightEvent evSize evCrossings evSegmentsNow grDegree grEdges grFar grQueue grQueued huX huY huSize huBestX huBestY S (xsOc X ou :: wM X mThrown mWorld mImage mDraft mEarlier mRemembered mHasImage mIsLaid mOne mTwo mShare mX mY mD mEventX mEventY mEventD mEvents mCrossingOf mBundle mEventOf mDegree mFrom mTo mCrossings mEdges mMet mUpper mLower mTape mTaped mPoint mEnd mBegin mFaultAt mFive mTold mActs mFar mViews mHullX mHullY mEndX mEndY mHeightUp mHeightLow mMeets mMeetsOf [])) H → va_D (xsF X) (wK X kIsKept kIsStale hiLatest hiSize scBytes scTold scLength scFault scAt scNumber piSegmentsNow enKind enX enY enLower enFromX enFromY enToX enToY tiTouching tiLyingAlong tiMeetingPairs tiAlongPairs tiSize evX evY evLower evBundle evCrossingOf evEventOf evLeftEvent evRightEvent evSize evCrossings evSegmentsNow grDegree grEdges grFar grQueue grQueued huX huY huSize huBestX huBestY S (xsOc X ou :: wM X mThrown mWorld mImage mDraft mEarlier mRemembered mHasImage mIsLaid mOne mTwo mShare mX mY mD mEventX mEventY mEventD mEvents mCrossingOf mBundle mEventOf mDegree mFrom mTo mCrossings mEdges mMet mUpper mLower mTape mTaped mPoint mEnd mBegin mFaultAt mFive mTold mActs mFar mViews mHullX mHullY mEndX mEndY mHeightUp mHeightLow mMeets mMeetsOf [])) → va_S (xsF X) s.heap H locs → lv_has ls 8 [(4, .int i), (3, .ref (xsA X 131)), (2, .ref (xsA X 100)), (1, .ref (xsA X 0)), (0, .ref b)] → W p l e room_1 s m #[.ref b] below meth c H locs (C0 + 5) (D0 + 30) Q (F0 m 2175 ls [])) :
    W p l e room_1 s m #[.ref b] below meth c H locs C0 D0 Q (F0 m 1710 ls []) := by
  have hx := C.1
  have hb := C.2.1
  by_cases hz : v3 = 0
  · obtain ⟨out, mo, ef, em, hor⟩ := hp hR v1 v2 (0 : Int32) xsB_0
    rcases hor with ⟨tt, eo, ea, et, hR⟩ | ⟨n, tt, eo, en, et, hR⟩
    · subst eo
      refine lv_aload_n hx hb dL_law_1710 rfl (lv_at hl 3 rfl) ?_
      refine lv_aload_n hx hb dL_law_1711 rfl (lv_at hl 4 rfl) ?_
      refine lv_iload hx hb dL_law_1712 (lv_at hl 0 rfl) ?_
      refine lv_iconst (v := (1 : Int32)) hx hb dL_law_1714 (by decide) ?_
      refine lv_iadd hx hb dL_law_1715 ?_
      refine xs_lld C hX hbz hbl hS hi1 dL_law_1716 ?_
      refine lv_aload_n hx hb dL_law_1717 rfl (lv_at hl 4 rfl) ?_
      refine lv_iload hx hb dL_law_1718 (lv_at hl 0 rfl) ?_
      refine lv_iconst (v := (2 : Int32)) hx hb dL_law_1720 (by decide) ?_
      refine lv_iadd hx hb dL_law_1721 ?_
      refine xs_lld C hX hbz hbl hS hi2 dL_law_1722 ?_
      refine lv_aload_n hx hb dL_law_1723 rfl (lv_at hl 4 rfl) ?_
      refine lv_iload hx hb dL_law_1724 (lv_at hl 0 rfl) ?_
      refine lv_iconst (v := (3 : Int32)) hx hb dL_law_1726 (by decide) ?_
      refine lv_iadd hx hb dL_law_1727 ?_
      refine xs_lld C hX hbz hbl hS hi3 dL_law_1728 ?_
      refine lv_if_eq (tgt := 1736) hx hb dL_law_1729 (by decide) (fun _ => ?_) (fun q => absurd hz q)
      refine lv_iconst (v := (0 : Int32)) hx hb dL_law_1736 (by decide) ?_
      refine lv_aload_n hx hb dL_law_1737 rfl (lv_at hl 1 rfl) ?_
      refine xs_lcalli hS (xs_lrunS (As := [.ref (xsA X 0), .int v1, .int v2, .int (0 : Int32), .ref (xsA X 131)]) (rest := []) C (mL_next l hst (xs_eta (S 0)) ef (fun n tt h => by cases h)) w_1275 w_1276 w_104 w_1277 hd_L_next (xsRmL hcs (by decide) (by decide) (by decide) (by decide)) hP hD hS hl.1 rfl (Nat.le_of_ble_eq_true rfl) dL_law_1738) (fun r u H locs hq hP hD hS => ?_)
      rcases hq with ⟨tx, e1, e2, e3⟩ | ⟨n, tx, e1, e2, e3⟩
      · cases e1
        subst e3
        subst e2
        refine lv_istore (lv' := [(5, .int 0), (4, .int i), (3, .ref (xsA X 131)), (2, .ref (xsA X 100)), (1, .ref (xsA X 0)), (0, .ref b)]) hx hb dL_law_1741 hl (by decide) rfl (fun ls hl => ?_)
        refine lv_aload_n hx hb dL_law_1743 rfl (lv_at hl 3 rfl) ?_
        refine lv_aload_n hx hb dL_law_1744 rfl (lv_at hl 5 rfl) ?_
        refine lv_iload hx hb dL_law_1745 (lv_at hl 1 rfl) ?_
        refine lv_iconst (v := (1 : Int32)) hx hb dL_law_1747 (by decide) ?_
        refine lv_iadd hx hb dL_law_1748 ?_
        refine xs_lld C hX hbz hbl hS hi1 dL_law_1749 ?_
        refine lv_aload_n hx hb dL_law_1750 rfl (lv_at hl 5 rfl) ?_
        refine lv_iload hx hb dL_law_1751 (lv_at hl 1 rfl) ?_
        refine lv_iconst (v := (2 : Int32)) hx hb dL_law_1753 (by decide) ?_
        refine lv_iadd hx hb dL_law_1754 ?_
        refine xs_lld C hX hbz hbl hS hi2 dL_law_1755 ?_
        refine lv_aload_n hx hb dL_law_1756 rfl (lv_at hl 5 rfl) ?_
        refine lv_iload hx hb dL_law_1757 (lv_at hl 1 rfl) ?_
        refine lv_iconst (v := (3 : Int32)) hx hb dL_law_1759 (by decide) ?_
        refine lv_iadd hx hb dL_law_1760 ?_
        refine xs_lld C hX hbz hbl hS hi3 dL_law_1761 ?_
        refine lv_if_eq (tgt := 1769) hx hb dL_law_1762 (by decide) (fun _ => ?_) (fun q => absurd hz q)
        refine lv_iconst (v := (0 : Int32)) hx hb dL_law_1769 (by decide) ?_
        replace hP := xs_toM hP
        replace hD := xs_toMD hD
        refine xs_calli hS (xs_runV (As := [.int v1, .int v2, .int (0 : Int32)]) (rest := []) C (mX11_next l em) w_1900 w_1901 w_1902 w_115 w_1903 hd_X11_next (xsRmB hcs (by decide) (by decide) (by decide) (by decide)) hP hD hS lk_X11 rfl hl.1 rfl (Nat.le_of_ble_eq_true rfl) dL_law_1770) (fun H locs hP hD hS => ?_)
        refine lv_istore (lv' := [(6, .int mo.1), (5, .int 0), (4, .int i), (3, .ref (xsA X 131)), (2, .ref (xsA X 100)), (1, .ref (xsA X 0)), (0, .ref b)]) hx hb dL_law_1773 hl (by decide) rfl (fun ls hl => ?_)
        refine lv_aload_n hx hb dL_law_1775 rfl (lv_at hl 4 rfl) ?_
        refine xs_calli hS (xs_runV (As := []) (rest := []) C (mX11_thrown l rfl) w_1343 w_1344 w_1345 w_115 w_1346 hd_X11_thrown (xsRmB hcs (by decide) (by decide) (by decide) (by decide)) hP hD hS lk_X11 rfl hl.1 rfl (Nat.le_of_ble_eq_true rfl) dL_law_1776) (fun H locs hP hD hS => ?_)
        replace hP := xs_toK hP
        replace hD := xs_toKD hD
        refine lv_iload hx hb dL_law_1779 (lv_at hl 1 rfl) ?_
        refine lv_icmp_eq (tgt := 1786) hx hb dL_law_1781 (by decide) (fun _ => ?_) (fun q => absurd et q)
        refine lv_iload hx hb dL_law_1786 (lv_at hl 1 rfl) ?_
        refine lv_if_ne (tgt := 1803) hx hb dL_law_1788 (by decide) (fun q => absurd rfl q) (fun _ => ?_)
        refine lv_aload_n hx hb dL_law_1791 rfl (lv_at hl 3 rfl) ?_
        refine lv_iconst (v := (0 : Int32)) hx hb dL_law_1792 (by decide) ?_
        refine xs_lald C hP (q0 := 99) rfl (vp_in_nI (n := 0) (by decide) (by decide)) dL_law_1793 ?_
        refine lv_iload hx hb dL_law_1794 (lv_at hl 0 rfl) ?_
        refine lv_i2l hx hb dL_law_1796 rfl ?_
        refine xs_lcmp_eq (tgt := 1803) C dL_law_1797 dL_law_1798 (by decide) (fun _ => ?_) (fun q => absurd (xs_ou0 (congrArg Int32.toInt64 ea)) q)
        refine lv_goto (tgt := 2175) hx hb dL_law_1803 (by decide) ?_
        exact W.widen (Nat.add_le_add_left (by decide) _) (Nat.add_le_add_left (by decide) _) (kk hR hP hD hS (lv_sub hl [2, 3, 4, 5, 6] rfl))
      · cases e1
    · subst eo
      refine lv_aload_n hx hb dL_law_1710 rfl (lv_at hl 3 rfl) ?_
      refine lv_aload_n hx hb dL_law_1711 rfl (lv_at hl 4 rfl) ?_
      refine lv_iload hx hb dL_law_1712 (lv_at hl 0 rfl) ?_
      refine lv_iconst (v := (1 : Int32)) hx hb dL_law_1714 (by decide) ?_
      refine lv_iadd hx hb dL_law_1715 ?_
      refine xs_lld C hX hbz hbl hS hi1 dL_law_1716 ?_
      refine lv_aload_n hx hb dL_law_1717 rfl (lv_at hl 4 rfl) ?_
      refine lv_iload hx hb dL_law_1718 (lv_at hl 0 rfl) ?_
      refine lv_iconst (v := (2 : Int32)) hx hb dL_law_1720 (by decide) ?_
      refine lv_iadd hx hb dL_law_1721 ?_
      refine xs_lld C hX hbz hbl hS hi2 dL_law_1722 ?_
      refine lv_aload_n hx hb dL_law_1723 rfl (lv_at hl 4 rfl) ?_
      refine lv_iload hx hb dL_law_1724 (lv_at hl 0 rfl) ?_
      refine lv_iconst (v := (3 : Int32)) hx hb dL_law_1726 (by decide) ?_
      refine lv_iadd hx hb dL_law_1727 ?_
      refine xs_lld C hX hbz hbl hS hi3 dL_law_1728 ?_
      refine lv_if_eq (tgt := 1736) hx hb dL_law_1729 (by decide) (fun _ => ?_) (fun q => absurd hz q)
      refine lv_iconst (v := (0 : Int32)) hx hb dL_law_1736 (by decide) ?_
      refine lv_aload_n hx hb dL_law_1737 rfl (lv_at hl 1 rfl) ?_
      refine xs_lcalli hS (xs_lrunS (As := [.ref (xsA X 0), .int v1, .int v2, .int (0 : Int32), .ref (xsA X 131)]) (rest := []) C (mL_next l hst (xs_eta (S 0)) ef (fun n2 t2 h => by cases h; exact en)) w_1275 w_1276 w_104 w_1277 hd_L_next (xsRmL hcs (by decide) (by decide) (by decide) (by decide)) hP hD hS hl.1 rfl (Nat.le_of_ble_eq_true rfl) dL_law_1738) (fun r u H locs hq hP hD hS => ?_)
      rcases hq with ⟨tx, e1, e2, e3⟩ | ⟨n2, tx, e1, e2, e3⟩
      · cases e1
      · cases e1
        subst e3
        have ekn : ¬ r = 0 := by rw [e2]; rw [en]; decide
        replace et := et.trans e2.symm
        refine lv_istore (lv' := [(5, .int r), (4, .int i), (3, .ref (xsA X 131)), (2, .ref (xsA X 100)), (1, .ref (xsA X 0)), (0, .ref b)]) hx hb dL_law_1741 hl (by decide) rfl (fun ls hl => ?_)
        refine lv_aload_n hx hb dL_law_1743 rfl (lv_at hl 3 rfl) ?_
        refine lv_aload_n hx hb dL_law_1744 rfl (lv_at hl 5 rfl) ?_
        refine lv_iload hx hb dL_law_1745 (lv_at hl 1 rfl) ?_
        refine lv_iconst (v := (1 : Int32)) hx hb dL_law_1747 (by decide) ?_
        refine lv_iadd hx hb dL_law_1748 ?_
        refine xs_lld C hX hbz hbl hS hi1 dL_law_1749 ?_
        refine lv_aload_n hx hb dL_law_1750 rfl (lv_at hl 5 rfl) ?_
        refine lv_iload hx hb dL_law_1751 (lv_at hl 1 rfl) ?_
        refine lv_iconst (v := (2 : Int32)) hx hb dL_law_1753 (by decide) ?_
        refine lv_iadd hx hb dL_law_1754 ?_
        refine xs_lld C hX hbz hbl hS hi2 dL_law_1755 ?_
        refine lv_aload_n hx hb dL_law_1756 rfl (lv_at hl 5 rfl) ?_
        refine lv_iload hx hb dL_law_1757 (lv_at hl 1 rfl) ?_
        refine lv_iconst (v := (3 : Int32)) hx hb dL_law_1759 (by decide) ?_
        refine lv_iadd hx hb dL_law_1760 ?_
        refine xs_lld C hX hbz hbl hS hi3 dL_law_1761 ?_
        refine lv_if_eq (tgt := 1769) hx hb dL_law_1762 (by decide) (fun _ => ?_) (fun q => absurd hz q)
        refine lv_iconst (v := (0 : Int32)) hx hb dL_law_1769 (by decide) ?_
        replace hP := xs_toM hP
        replace hD := xs_toMD hD
        refine xs_calli hS (xs_runV (As := [.int v1, .int v2, .int (0 : Int32)]) (rest := []) C (mX11_next l em) w_1900 w_1901 w_1902 w_115 w_1903 hd_X11_next (xsRmB hcs (by decide) (by decide) (by decide) (by decide)) hP hD hS lk_X11 rfl hl.1 rfl (Nat.le_of_ble_eq_true rfl) dL_law_1770) (fun H locs hP hD hS => ?_)
        refine lv_istore (lv' := [(6, .int mo.1), (5, .int r), (4, .int i), (3, .ref (xsA X 131)), (2, .ref (xsA X 100)), (1, .ref (xsA X 0)), (0, .ref b)]) hx hb dL_law_1773 hl (by decide) rfl (fun ls hl => ?_)
        refine lv_aload_n hx hb dL_law_1775 rfl (lv_at hl 4 rfl) ?_
        refine xs_calli hS (xs_runV (As := []) (rest := []) C (mX11_thrown l rfl) w_1343 w_1344 w_1345 w_115 w_1346 hd_X11_thrown (xsRmB hcs (by decide) (by decide) (by decide) (by decide)) hP hD hS lk_X11 rfl hl.1 rfl (Nat.le_of_ble_eq_true rfl) dL_law_1776) (fun H locs hP hD hS => ?_)
        replace hP := xs_toK hP
        replace hD := xs_toKD hD
        refine lv_iload hx hb dL_law_1779 (lv_at hl 1 rfl) ?_
        refine lv_icmp_eq (tgt := 1786) hx hb dL_law_1781 (by decide) (fun _ => ?_) (fun q => absurd et q)
        refine lv_iload hx hb dL_law_1786 (lv_at hl 1 rfl) ?_
        refine lv_if_ne (tgt := 1803) hx hb dL_law_1788 (by decide) (fun _ => ?_) (fun q => absurd q (ekn))
        refine lv_goto (tgt := 2175) hx hb dL_law_1803 (by decide) ?_
        exact W.widen (Nat.add_le_add_left (by decide) _) (Nat.add_le_add_left (by decide) _) (kk hR hP hD hS (lv_sub hl [2, 3, 4, 5, 6] rfl))
  · obtain ⟨out, mo, ef, em, hor⟩ := hp hR v1 v2 (1 : Int32) xsB_1
    rcases hor with ⟨tt, eo, ea, et, hR⟩ | ⟨n, tt, eo, en, et, hR⟩
    · subst eo
      refine lv_aload_n hx hb dL_law_1710 rfl (lv_at hl 3 rfl) ?_
      refine lv_aload_n hx hb dL_law_1711 rfl (lv_at hl 4 rfl) ?_
      refine lv_iload hx hb dL_law_1712 (lv_at hl 0 rfl) ?_
      refine lv_iconst (v := (1 : Int32)) hx hb dL_law_1714 (by decide) ?_
      refine lv_iadd hx hb dL_law_1715 ?_
      refine xs_lld C hX hbz hbl hS hi1 dL_law_1716 ?_
      refine lv_aload_n hx hb dL_law_1717 rfl (lv_at hl 4 rfl) ?_
      refine lv_iload hx hb dL_law_1718 (lv_at hl 0 rfl) ?_
      refine lv_iconst (v := (2 : Int32)) hx hb dL_law_1720 (by decide) ?_
      refine lv_iadd hx hb dL_law_1721 ?_
      refine xs_lld C hX hbz hbl hS hi2 dL_law_1722 ?_
      refine lv_aload_n hx hb dL_law_1723 rfl (lv_at hl 4 rfl) ?_
      refine lv_iload hx hb dL_law_1724 (lv_at hl 0 rfl) ?_
      refine lv_iconst (v := (3 : Int32)) hx hb dL_law_1726 (by decide) ?_
      refine lv_iadd hx hb dL_law_1727 ?_
      refine xs_lld C hX hbz hbl hS hi3 dL_law_1728 ?_
      refine lv_if_eq (tgt := 1736) hx hb dL_law_1729 (by decide) (fun q => absurd q hz) (fun _ => ?_)
      refine lv_iconst (v := (1 : Int32)) hx hb dL_law_1732 (by decide) ?_
      refine lv_goto (tgt := 1737) hx hb dL_law_1733 (by decide) ?_
      refine lv_aload_n hx hb dL_law_1737 rfl (lv_at hl 1 rfl) ?_
      refine xs_lcalli hS (xs_lrunS (As := [.ref (xsA X 0), .int v1, .int v2, .int (1 : Int32), .ref (xsA X 131)]) (rest := []) C (mL_next l hst (xs_eta (S 0)) ef (fun n tt h => by cases h)) w_1275 w_1276 w_104 w_1277 hd_L_next (xsRmL hcs (by decide) (by decide) (by decide) (by decide)) hP hD hS hl.1 rfl (Nat.le_of_ble_eq_true rfl) dL_law_1738) (fun r u H locs hq hP hD hS => ?_)
      rcases hq with ⟨tx, e1, e2, e3⟩ | ⟨n, tx, e1, e2, e3⟩
      · cases e1
        subst e3
        subst e2
        refine lv_istore (lv' := [(5, .int 0), (4, .int i), (3, .ref (xsA X 131)), (2, .ref (xsA X 100)), (1, .ref (xsA X 0)), (0, .ref b)]) hx hb dL_law_1741 hl (by decide) rfl (fun ls hl => ?_)
        refine lv_aload_n hx hb dL_law_1743 rfl (lv_at hl 3 rfl) ?_
        refine lv_aload_n hx hb dL_law_1744 rfl (lv_at hl 5 rfl) ?_
        refine lv_iload hx hb dL_law_1745 (lv_at hl 1 rfl) ?_
        refine lv_iconst (v := (1 : Int32)) hx hb dL_law_1747 (by decide) ?_
        refine lv_iadd hx hb dL_law_1748 ?_
        refine xs_lld C hX hbz hbl hS hi1 dL_law_1749 ?_
        refine lv_aload_n hx hb dL_law_1750 rfl (lv_at hl 5 rfl) ?_
        refine lv_iload hx hb dL_law_1751 (lv_at hl 1 rfl) ?_
        refine lv_iconst (v := (2 : Int32)) hx hb dL_law_1753 (by decide) ?_
        refine lv_iadd hx hb dL_law_1754 ?_
        refine xs_lld C hX hbz hbl hS hi2 dL_law_1755 ?_
        refine lv_aload_n hx hb dL_law_1756 rfl (lv_at hl 5 rfl) ?_
        refine lv_iload hx hb dL_law_1757 (lv_at hl 1 rfl) ?_
        refine lv_iconst (v := (3 : Int32)) hx hb dL_law_1759 (by decide) ?_
        refine lv_iadd hx hb dL_law_1760 ?_
        refine xs_lld C hX hbz hbl hS hi3 dL_law_1761 ?_
        refine lv_if_eq (tgt := 1769) hx hb dL_law_1762 (by decide) (fun q => absurd q hz) (fun _ => ?_)
        refine lv_iconst (v := (1 : Int32)) hx hb dL_law_1765 (by decide) ?_
        refine lv_goto (tgt := 1770) hx hb dL_law_1766 (by decide) ?_
        replace hP := xs_toM hP
        replace hD := xs_toMD hD
        refine xs_calli hS (xs_runV (As := [.int v1, .int v2, .int (1 : Int32)]) (rest := []) C (mX11_next l em) w_1900 w_1901 w_1902 w_115 w_1903 hd_X11_next (xsRmB hcs (by decide) (by decide) (by decide) (by decide)) hP hD hS lk_X11 rfl hl.1 rfl (Nat.le_of_ble_eq_true rfl) dL_law_1770) (fun H locs hP hD hS => ?_)
        refine lv_istore (lv' := [(6, .int mo.1), (5, .int 0), (4, .int i), (3, .ref (xsA X 131)), (2, .ref (xsA X 100)), (1, .ref (xsA X 0)), (0, .ref b)]) hx hb dL_law_1773 hl (by decide) rfl (fun ls hl => ?_)
        refine lv_aload_n hx hb dL_law_1775 rfl (lv_at hl 4 rfl) ?_
        refine xs_calli hS (xs_runV (As := []) (rest := []) C (mX11_thrown l rfl) w_1343 w_1344 w_1345 w_115 w_1346 hd_X11_thrown (xsRmB hcs (by decide) (by decide) (by decide) (by decide)) hP hD hS lk_X11 rfl hl.1 rfl (Nat.le_of_ble_eq_true rfl) dL_law_1776) (fun H locs hP hD hS => ?_)
        replace hP := xs_toK hP
        replace hD := xs_toKD hD
        refine lv_iload hx hb dL_law_1779 (lv_at hl 1 rfl) ?_
        refine lv_icmp_eq (tgt := 1786) hx hb dL_law_1781 (by decide) (fun _ => ?_) (fun q => absurd et q)
        refine lv_iload hx hb dL_law_1786 (lv_at hl 1 rfl) ?_
        refine lv_if_ne (tgt := 1803) hx hb dL_law_1788 (by decide) (fun q => absurd rfl q) (fun _ => ?_)
        refine lv_aload_n hx hb dL_law_1791 rfl (lv_at hl 3 rfl) ?_
        refine lv_iconst (v := (0 : Int32)) hx hb dL_law_1792 (by decide) ?_
        refine xs_lald C hP (q0 := 99) rfl (vp_in_nI (n := 0) (by decide) (by decide)) dL_law_1793 ?_
        refine lv_iload hx hb dL_law_1794 (lv_at hl 0 rfl) ?_
        refine lv_i2l hx hb dL_law_1796 rfl ?_
        refine xs_lcmp_eq (tgt := 1803) C dL_law_1797 dL_law_1798 (by decide) (fun _ => ?_) (fun q => absurd (xs_ou0 (congrArg Int32.toInt64 ea)) q)
        refine lv_goto (tgt := 2175) hx hb dL_law_1803 (by decide) ?_
        exact W.widen (Nat.add_le_add_left (by decide) _) (Nat.add_le_add_left (by decide) _) (kk hR hP hD hS (lv_sub hl [2, 3, 4, 5, 6] rfl))
      · cases e1
    · subst eo
      refine lv_aload_n hx hb dL_law_1710 rfl (lv_at hl 3 rfl) ?_
      refine lv_aload_n hx hb dL_law_1711 rfl (lv_at hl 4 rfl) ?_
      refine lv_iload hx hb dL_law_1712 (lv_at hl 0 rfl) ?_
      refine lv_iconst (v := (1 : Int32)) hx hb dL_law_1714 (by decide) ?_
      refine lv_iadd hx hb dL_law_1715 ?_
      refine xs_lld C hX hbz hbl hS hi1 dL_law_1716 ?_
      refine lv_aload_n hx hb dL_law_1717 rfl (lv_at hl 4 rfl) ?_
      refine lv_iload hx hb dL_law_1718 (lv_at hl 0 rfl) ?_
      refine lv_iconst (v := (2 : Int32)) hx hb dL_law_1720 (by decide) ?_
      refine lv_iadd hx hb dL_law_1721 ?_
      refine xs_lld C hX hbz hbl hS hi2 dL_law_1722 ?_
      refine lv_aload_n hx hb dL_law_1723 rfl (lv_at hl 4 rfl) ?_
      refine lv_iload hx hb dL_law_1724 (lv_at hl 0 rfl) ?_
      refine lv_iconst (v := (3 : Int32)) hx hb dL_law_1726 (by decide) ?_
      refine lv_iadd hx hb dL_law_1727 ?_
      refine xs_lld C hX hbz hbl hS hi3 dL_law_1728 ?_
      refine lv_if_eq (tgt := 1736) hx hb dL_law_1729 (by decide) (fun q => absurd q hz) (fun _ => ?_)
      refine lv_iconst (v := (1 : Int32)) hx hb dL_law_1732 (by decide) ?_
      refine lv_goto (tgt := 1737) hx hb dL_law_1733 (by decide) ?_
      refine lv_aload_n hx hb dL_law_1737 rfl (lv_at hl 1 rfl) ?_
      refine xs_lcalli hS (xs_lrunS (As := [.ref (xsA X 0), .int v1, .int v2, .int (1 : Int32), .ref (xsA X 131)]) (rest := []) C (mL_next l hst (xs_eta (S 0)) ef (fun n2 t2 h => by cases h; exact en)) w_1275 w_1276 w_104 w_1277 hd_L_next (xsRmL hcs (by decide) (by decide) (by decide) (by decide)) hP hD hS hl.1 rfl (Nat.le_of_ble_eq_true rfl) dL_law_1738) (fun r u H locs hq hP hD hS => ?_)
      rcases hq with ⟨tx, e1, e2, e3⟩ | ⟨n2, tx, e1, e2, e3⟩
      · cases e1
      · cases e1
        subst e3
        have ekn : ¬ r = 0 := by rw [e2]; rw [en]; decide
        replace et := et.trans e2.symm
        refine lv_istore (lv' := [(5, .int r), (4, .int i), (3, .ref (xsA X 131)), (2, .ref (xsA X 100)), (1, .ref (xsA X 0)), (0, .ref b)]) hx hb dL_law_1741 hl (by decide) rfl (fun ls hl => ?_)
        refine lv_aload_n hx hb dL_law_1743 rfl (lv_at hl 3 rfl) ?_
        refine lv_aload_n hx hb dL_law_1744 rfl (lv_at hl 5 rfl) ?_
        refine lv_iload hx hb dL_law_1745 (lv_at hl 1 rfl) ?_
        refine lv_iconst (v := (1 : Int32)) hx hb dL_law_1747 (by decide) ?_
        refine lv_iadd hx hb dL_law_1748 ?_
        refine xs_lld C hX hbz hbl hS hi1 dL_law_1749 ?_
        refine lv_aload_n hx hb dL_law_1750 rfl (lv_at hl 5 rfl) ?_
        refine lv_iload hx hb dL_law_1751 (lv_at hl 1 rfl) ?_
        refine lv_iconst (v := (2 : Int32)) hx hb dL_law_1753 (by decide) ?_
        refine lv_iadd hx hb dL_law_1754 ?_
        refine xs_lld C hX hbz hbl hS hi2 dL_law_1755 ?_
        refine lv_aload_n hx hb dL_law_1756 rfl (lv_at hl 5 rfl) ?_
        refine lv_iload hx hb dL_law_1757 (lv_at hl 1 rfl) ?_
        refine lv_iconst (v := (3 : Int32)) hx hb dL_law_1759 (by decide) ?_
        refine lv_iadd hx hb dL_law_1760 ?_
        refine xs_lld C hX hbz hbl hS hi3 dL_law_1761 ?_
        refine lv_if_eq (tgt := 1769) hx hb dL_law_1762 (by decide) (fun q => absurd q hz) (fun _ => ?_)
        refine lv_iconst (v := (1 : Int32)) hx hb dL_law_1765 (by decide) ?_
        refine lv_goto (tgt := 1770) hx hb dL_law_1766 (by decide) ?_
        replace hP := xs_toM hP
        replace hD := xs_toMD hD
        refine xs_calli hS (xs_runV (As := [.int v1, .int v2, .int (1 : Int32)]) (rest := []) C (mX11_next l em) w_1900 w_1901 w_1902 w_115 w_1903 hd_X11_next (xsRmB hcs (by decide) (by decide) (by decide) (by decide)) hP hD hS lk_X11 rfl hl.1 rfl (Nat.le_of_ble_eq_true rfl) dL_law_1770) (fun H locs hP hD hS => ?_)
        refine lv_istore (lv' := [(6, .int mo.1), (5, .int r), (4, .int i), (3, .ref (xsA X 131)), (2, .ref (xsA X 100)), (1, .ref (xsA X 0)), (0, .ref b)]) hx hb dL_law_1773 hl (by decide) rfl (fun ls hl => ?_)
        refine lv_aload_n hx hb dL_law_1775 rfl (lv_at hl 4 rfl) ?_
        refine xs_calli hS (xs_runV (As := []) (rest := []) C (mX11_thrown l rfl) w_1343 w_1344 w_1345 w_115 w_1346 hd_X11_thrown (xsRmB hcs (by decide) (by decide) (by decide) (by decide)) hP hD hS lk_X11 rfl hl.1 rfl (Nat.le_of_ble_eq_true rfl) dL_law_1776) (fun H locs hP hD hS => ?_)
        replace hP := xs_toK hP
        replace hD := xs_toKD hD
        refine lv_iload hx hb dL_law_1779 (lv_at hl 1 rfl) ?_
        refine lv_icmp_eq (tgt := 1786) hx hb dL_law_1781 (by decide) (fun _ => ?_) (fun q => absurd et q)
        refine lv_iload hx hb dL_law_1786 (lv_at hl 1 rfl) ?_
        refine lv_if_ne (tgt := 1803) hx hb dL_law_1788 (by decide) (fun _ => ?_) (fun q => absurd q (ekn))
        refine lv_goto (tgt := 2175) hx hb dL_law_1803 (by decide) ?_
        exact W.widen (Nat.add_le_add_left (by decide) _) (Nat.add_le_add_left (by decide) _) (kk hR hP hD hS (lv_sub hl [2, 3, 4, 5, 6] rfl))
set_option maxRecDepth 100000 in
set_option maxHeartbeats 8000000 in
theorem lc_over {Rl : xsRel} (l : Launch) (hst : l.stackTraces = false) (hp : pc_over Rl) {i v1 v2 v3 v4 v5 : Int32} (C : xsC p s m c cL_law #[.ref b] RL 8 X) (hX : va_X b L xs s s.heap) (hbz : b < xsZ X) (hbl : b < s.heap.size) (hi1 : vp_in (i + 1) L ∧ xs (i + 1).toNatClampNeg = v1) (hi2 : vp_in (i + 2) L ∧ xs (i + 2).toNatClampNeg = v2) (hi3 : vp_in (i + 3) L ∧ xs (i + 3).toNatClampNeg = v3) (hi4 : vp_in (i + 4) L ∧ xs (i + 4).toNatClampNeg = v4) (hi5 : vp_in (i + 5) L ∧ xs (i + 5).toNatClampNeg = v5) (hcs : xsRmC C0 D0) (hP : va_P (xsD X) vwCl (wK X kIsKept kIsStale hiLatest hiSize scBytes scTold scLength scFault scAt scNumber piSegmentsNow enKind enX enY enLower enFromX enFromY enToX enToY tiTouching tiLyingAlong tiMeetingPairs tiAlongPairs tiSize evX evY evLower evBundle evCrossingOf evEventOf evLeftEvent evRightEvent evSize evCrossings evSegmentsNow grDegree grEdges grFar grQueue grQueued huX huY huSize huBestX huBestY S (xsOc X ou :: wM X mThrown mWorld mImage mDraft mEarlier mRemembered mHasImage mIsLaid mOne mTwo mShare mX mY mD mEventX mEventY mEventD mEvents mCrossingOf mBundle mEventOf mDegree mFrom mTo mCrossings mEdges mMet mUpper mLower mTape mTaped mPoint mEnd mBegin mFaultAt mFive mTold mActs mFar mViews mHullX mHullY mEndX mEndY mHeightUp mHeightLow mMeets mMeetsOf [])) H) (hD : va_D (xsF X) (wK X kIsKept kIsStale hiLatest hiSize scBytes scTold scLength scFault scAt scNumber piSegmentsNow enKind enX enY enLower enFromX enFromY enToX enToY tiTouching tiLyingAlong tiMeetingPairs tiAlongPairs tiSize evX evY evLower evBundle evCrossingOf evEventOf evLeftEvent evRightEvent evSize evCrossings evSegmentsNow grDegree grEdges grFar grQueue grQueued huX huY huSize huBestX huBestY S (xsOc X ou :: wM X mThrown mWorld mImage mDraft mEarlier mRemembered mHasImage mIsLaid mOne mTwo mShare mX mY mD mEventX mEventY mEventD mEvents mCrossingOf mBundle mEventOf mDegree mFrom mTo mCrossings mEdges mMet mUpper mLower mTape mTaped mPoint mEnd mBegin mFaultAt mFive mTold mActs mFar mViews mHullX mHullY mEndX mEndY mHeightUp mHeightLow mMeets mMeetsOf []))) (hS : va_S (xsF X) s.heap H locs) (hl : lv_has ls 8 [(4, .int i), (3, .ref (xsA X 131)), (2, .ref (xsA X 100)), (1, .ref (xsA X 0)), (0, .ref b)]) (hR : Rl kIsKept kIsStale hiLatest hiSize scBytes scTold scLength scFault scAt scNumber piSegmentsNow enKind enX enY enLower enFromX enFromY enToX enToY tiTouching tiLyingAlong tiMeetingPairs tiAlongPairs tiSize evX evY evLower evBundle evCrossingOf evEventOf evLeftEvent evRightEvent evSize evCrossings evSegmentsNow grDegree grEdges grFar grQueue grQueued huX huY huSize huBestX huBestY S mThrown mWorld mImage mDraft mEarlier mRemembered mHasImage mIsLaid mOne mTwo mShare mX mY mD mEventX mEventY mEventD mEvents mCrossingOf mBundle mEventOf mDegree mFrom mTo mCrossings mEdges mMet mUpper mLower mTape mTaped mPoint mEnd mBegin mFaultAt mFive mTold mActs mFar mViews mHullX mHullY mEndX mEndY mHeightUp mHeightLow mMeets mMeetsOf)
    (kk : ∀ {kIsKept kIsStale hiLatest hiSize scLength scFault scAt scNumber piSegmentsNow enKind enFromX enFromY enToX enToY tiMeetingPairs tiAlongPairs tiSize evSize evCrossings evSegmentsNow grEdges grQueued huSize huBestX huBestY : Int32} {scBytes scTold tiTouching tiLyingAlong evBundle evCrossingOf evEventOf evLeftEvent evRightEvent grDegree grFar grQueue huX huY : Nat → Int32} {enX enY enLower : Int64} {evX evY evLower : Nat → Int64} {S : Nat → xsV} {mThrown mRemembered mHasImage mIsLaid mEvents mCrossings mEdges mTaped mPoint mEnd mBegin mFaultAt mActs : Int32} {mWorld mImage mDraft mEarlier mOne mTwo mShare mCrossingOf mBundle mEventOf mDegree mFrom mTo mMet mTape mFive mTold mFar mViews mHullX mHullY mEndX mEndY mMeets mMeetsOf : Nat → Int32} {mX mY mD mHeightUp mHeightLow : Int64} {mEventX mEventY mEventD mUpper mLower : Nat → Int64} {ou : Nat → Int64} {ls : Array Slot} {H : Heap} {locs : List Loc}, Rl kIsKept kIsStale hiLatest hiSize scBytes scTold scLength scFault scAt scNumber piSegmentsNow enKind enX enY enLower enFromX enFromY enToX enToY tiTouching tiLyingAlong tiMeetingPairs tiAlongPairs tiSize evX evY evLower evBundle evCrossingOf evEventOf evLeftEvent evRightEvent evSize evCrossings evSegmentsNow grDegree grEdges grFar grQueue grQueued huX huY huSize huBestX huBestY S mThrown mWorld mImage mDraft mEarlier mRemembered mHasImage mIsLaid mOne mTwo mShare mX mY mD mEventX mEventY mEventD mEvents mCrossingOf mBundle mEventOf mDegree mFrom mTo mCrossings mEdges mMet mUpper mLower mTape mTaped mPoint mEnd mBegin mFaultAt mFive mTold mActs mFar mViews mHullX mHullY mEndX mEndY mHeightUp mHeightLow mMeets mMeetsOf → va_P (xsD X) vwCl (wK X kIsKept kIsStale hiLatest hiSize scBytes scTold scLength scFault scAt scNumber piSegmentsNow enKind enX enY enLower enFromX enFromY enToX enToY tiTouching tiLyingAlong tiMeetingPairs tiAlongPairs tiSize evX evY evLower evBundle evCrossingOf evEventOf evLeftEvent evRightEvent evSize evCrossings evSegmentsNow grDegree grEdges grFar grQueue grQueued huX huY huSize huBestX huBestY S (xsOc X ou :: wM X mThrown mWorld mImage mDraft mEarlier mRemembered mHasImage mIsLaid mOne mTwo mShare mX mY mD mEventX mEventY mEventD mEvents mCrossingOf mBundle mEventOf mDegree mFrom mTo mCrossings mEdges mMet mUpper mLower mTape mTaped mPoint mEnd mBegin mFaultAt mFive mTold mActs mFar mViews mHullX mHullY mEndX mEndY mHeightUp mHeightLow mMeets mMeetsOf [])) H → va_D (xsF X) (wK X kIsKept kIsStale hiLatest hiSize scBytes scTold scLength scFault scAt scNumber piSegmentsNow enKind enX enY enLower enFromX enFromY enToX enToY tiTouching tiLyingAlong tiMeetingPairs tiAlongPairs tiSize evX evY evLower evBundle evCrossingOf evEventOf evLeftEvent evRightEvent evSize evCrossings evSegmentsNow grDegree grEdges grFar grQueue grQueued huX huY huSize huBestX huBestY S (xsOc X ou :: wM X mThrown mWorld mImage mDraft mEarlier mRemembered mHasImage mIsLaid mOne mTwo mShare mX mY mD mEventX mEventY mEventD mEvents mCrossingOf mBundle mEventOf mDegree mFrom mTo mCrossings mEdges mMet mUpper mLower mTape mTaped mPoint mEnd mBegin mFaultAt mFive mTold mActs mFar mViews mHullX mHullY mEndX mEndY mHeightUp mHeightLow mMeets mMeetsOf [])) → va_S (xsF X) s.heap H locs → lv_has ls 8 [(4, .int i), (3, .ref (xsA X 131)), (2, .ref (xsA X 100)), (1, .ref (xsA X 0)), (0, .ref b)] → W p l e room_1 s m #[.ref b] below meth c H locs (C0 + 5) (D0 + 30) Q (F0 m 2175 ls [])) :
    W p l e room_1 s m #[.ref b] below meth c H locs C0 D0 Q (F0 m 1806 ls []) := by
  have hx := C.1
  have hb := C.2.1
  obtain ⟨out, mo, ef, em, hor⟩ := hp hR v1 v2
  rcases hor with ⟨tt, eo, ea, et, hR⟩ | ⟨n, tt, eo, en, et, hR⟩
  · subst eo
    refine lv_aload_n hx hb dL_law_1806 rfl (lv_at hl 3 rfl) ?_
    refine lv_aload_n hx hb dL_law_1807 rfl (lv_at hl 4 rfl) ?_
    refine lv_iload hx hb dL_law_1808 (lv_at hl 0 rfl) ?_
    refine lv_iconst (v := (1 : Int32)) hx hb dL_law_1810 (by decide) ?_
    refine lv_iadd hx hb dL_law_1811 ?_
    refine xs_lld C hX hbz hbl hS hi1 dL_law_1812 ?_
    refine lv_aload_n hx hb dL_law_1813 rfl (lv_at hl 4 rfl) ?_
    refine lv_iload hx hb dL_law_1814 (lv_at hl 0 rfl) ?_
    refine lv_iconst (v := (2 : Int32)) hx hb dL_law_1816 (by decide) ?_
    refine lv_iadd hx hb dL_law_1817 ?_
    refine xs_lld C hX hbz hbl hS hi2 dL_law_1818 ?_
    refine lv_aload_n hx hb dL_law_1819 rfl (lv_at hl 1 rfl) ?_
    refine xs_lcalli hS (xs_lrunS (As := [.ref (xsA X 0), .int v1, .int v2, .ref (xsA X 131)]) (rest := []) C (mL_over l hst (xs_eta (S 0)) ef (fun n tt h => by cases h)) w_1288 w_1289 w_104 w_1290 hd_L_over (xsRmL hcs (by decide) (by decide) (by decide) (by decide)) hP hD hS hl.1 rfl (Nat.le_of_ble_eq_true rfl) dL_law_1820) (fun r u H locs hq hP hD hS => ?_)
    rcases hq with ⟨tx, e1, e2, e3⟩ | ⟨n, tx, e1, e2, e3⟩
    · cases e1
      subst e3
      subst e2
      refine lv_istore (lv' := [(5, .int 0), (4, .int i), (3, .ref (xsA X 131)), (2, .ref (xsA X 100)), (1, .ref (xsA X 0)), (0, .ref b)]) hx hb dL_law_1823 hl (by decide) rfl (fun ls hl => ?_)
      refine lv_aload_n hx hb dL_law_1825 rfl (lv_at hl 3 rfl) ?_
      refine lv_aload_n hx hb dL_law_1826 rfl (lv_at hl 5 rfl) ?_
      refine lv_iload hx hb dL_law_1827 (lv_at hl 1 rfl) ?_
      refine lv_iconst (v := (1 : Int32)) hx hb dL_law_1829 (by decide) ?_
      refine lv_iadd hx hb dL_law_1830 ?_
      refine xs_lld C hX hbz hbl hS hi1 dL_law_1831 ?_
      refine lv_aload_n hx hb dL_law_1832 rfl (lv_at hl 5 rfl) ?_
      refine lv_iload hx hb dL_law_1833 (lv_at hl 1 rfl) ?_
      refine lv_iconst (v := (2 : Int32)) hx hb dL_law_1835 (by decide) ?_
      refine lv_iadd hx hb dL_law_1836 ?_
      refine xs_lld C hX hbz hbl hS hi2 dL_law_1837 ?_
      replace hP := xs_toM hP
      replace hD := xs_toMD hD
      refine xs_calli hS (xs_runV (As := [.int v1, .int v2]) (rest := []) C (mX11_over l em) w_1908 w_1909 w_1910 w_115 w_1911 hd_X11_over (xsRmB hcs (by decide) (by decide) (by decide) (by decide)) hP hD hS lk_X11 rfl hl.1 rfl (Nat.le_of_ble_eq_true rfl) dL_law_1838) (fun H locs hP hD hS => ?_)
      refine lv_istore (lv' := [(6, .int mo.1), (5, .int 0), (4, .int i), (3, .ref (xsA X 131)), (2, .ref (xsA X 100)), (1, .ref (xsA X 0)), (0, .ref b)]) hx hb dL_law_1841 hl (by decide) rfl (fun ls hl => ?_)
      refine lv_aload_n hx hb dL_law_1843 rfl (lv_at hl 4 rfl) ?_
      refine xs_calli hS (xs_runV (As := []) (rest := []) C (mX11_thrown l rfl) w_1343 w_1344 w_1345 w_115 w_1346 hd_X11_thrown (xsRmB hcs (by decide) (by decide) (by decide) (by decide)) hP hD hS lk_X11 rfl hl.1 rfl (Nat.le_of_ble_eq_true rfl) dL_law_1844) (fun H locs hP hD hS => ?_)
      replace hP := xs_toK hP
      replace hD := xs_toKD hD
      refine lv_iload hx hb dL_law_1847 (lv_at hl 1 rfl) ?_
      refine lv_icmp_eq (tgt := 1854) hx hb dL_law_1849 (by decide) (fun _ => ?_) (fun q => absurd et q)
      refine lv_iload hx hb dL_law_1854 (lv_at hl 1 rfl) ?_
      refine lv_if_ne (tgt := 1871) hx hb dL_law_1856 (by decide) (fun q => absurd rfl q) (fun _ => ?_)
      refine lv_aload_n hx hb dL_law_1859 rfl (lv_at hl 3 rfl) ?_
      refine lv_iconst (v := (0 : Int32)) hx hb dL_law_1860 (by decide) ?_
      refine xs_lald C hP (q0 := 99) rfl (vp_in_nI (n := 0) (by decide) (by decide)) dL_law_1861 ?_
      refine lv_iload hx hb dL_law_1862 (lv_at hl 0 rfl) ?_
      refine lv_i2l hx hb dL_law_1864 rfl ?_
      refine xs_lcmp_eq (tgt := 1871) C dL_law_1865 dL_law_1866 (by decide) (fun _ => ?_) (fun q => absurd (xs_ou0 (congrArg Int32.toInt64 ea)) q)
      refine lv_goto (tgt := 2175) hx hb dL_law_1871 (by decide) ?_
      exact W.widen (Nat.add_le_add_left (by decide) _) (Nat.add_le_add_left (by decide) _) (kk hR hP hD hS (lv_sub hl [2, 3, 4, 5, 6] rfl))
    · cases e1
  · subst eo
    refine lv_aload_n hx hb dL_law_1806 rfl (lv_at hl 3 rfl) ?_
    refine lv_aload_n hx hb dL_law_1807 rfl (lv_at hl 4 rfl) ?_
    refine lv_iload hx hb dL_law_1808 (lv_at hl 0 rfl) ?_
    refine lv_iconst (v := (1 : Int32)) hx hb dL_law_1810 (by decide) ?_
    refine lv_iadd hx hb dL_law_1811 ?_
    refine xs_lld C hX hbz hbl hS hi1 dL_law_1812 ?_
    refine lv_aload_n hx hb dL_law_1813 rfl (lv_at hl 4 rfl) ?_
    refine lv_iload hx hb dL_law_1814 (lv_at hl 0 rfl) ?_
    refine lv_iconst (v := (2 : Int32)) hx hb dL_law_1816 (by decide) ?_
    refine lv_iadd hx hb dL_law_1817 ?_
    refine xs_lld C hX hbz hbl hS hi2 dL_law_1818 ?_
    refine lv_aload_n hx hb dL_law_1819 rfl (lv_at hl 1 rfl) ?_
    refine xs_lcalli hS (xs_lrunS (As := [.ref (xsA X 0), .int v1, .int v2, .ref (xsA X 131)]) (rest := []) C (mL_over l hst (xs_eta (S 0)) ef (fun n2 t2 h => by cases h; exact en)) w_1288 w_1289 w_104 w_1290 hd_L_over (xsRmL hcs (by decide) (by decide) (by decide) (by decide)) hP hD hS hl.1 rfl (Nat.le_of_ble_eq_true rfl) dL_law_1820) (fun r u H locs hq hP hD hS => ?_)
    rcases hq with ⟨tx, e1, e2, e3⟩ | ⟨n2, tx, e1, e2, e3⟩
    · cases e1
    · cases e1
      subst e3
      have ekn : ¬ r = 0 := by rw [e2]; rw [en]; decide
      replace et := et.trans e2.symm
      refine lv_istore (lv' := [(5, .int r), (4, .int i), (3, .ref (xsA X 131)), (2, .ref (xsA X 100)), (1, .ref (xsA X 0)), (0, .ref b)]) hx hb dL_law_1823 hl (by decide) rfl (fun ls hl => ?_)
      refine lv_aload_n hx hb dL_law_1825 rfl (lv_at hl 3 rfl) ?_
      refine lv_aload_n hx hb dL_law_1826 rfl (lv_at hl 5 rfl) ?_
      refine lv_iload hx hb dL_law_1827 (lv_at hl 1 rfl) ?_
      refine lv_iconst (v := (1 : Int32)) hx hb dL_law_1829 (by decide) ?_
      refine lv_iadd hx hb dL_law_1830 ?_
      refine xs_lld C hX hbz hbl hS hi1 dL_law_1831 ?_
      refine lv_aload_n hx hb dL_law_1832 rfl (lv_at hl 5 rfl) ?_
      refine lv_iload hx hb dL_law_1833 (lv_at hl 1 rfl) ?_
      refine lv_iconst (v := (2 : Int32)) hx hb dL_law_1835 (by decide) ?_
      refine lv_iadd hx hb dL_law_1836 ?_
      refine xs_lld C hX hbz hbl hS hi2 dL_law_1837 ?_
      replace hP := xs_toM hP
      replace hD := xs_toMD hD
      refine xs_calli hS (xs_runV (As := [.int v1, .int v2]) (rest := []) C (mX11_over l em) w_1908 w_1909 w_1910 w_115 w_1911 hd_X11_over (xsRmB hcs (by decide) (by decide) (by decide) (by decide)) hP hD hS lk_X11 rfl hl.1 rfl (Nat.le_of_ble_eq_true rfl) dL_law_1838) (fun H locs hP hD hS => ?_)
      refine lv_istore (lv' := [(6, .int mo.1), (5, .int r), (4, .int i), (3, .ref (xsA X 131)), (2, .ref (xsA X 100)), (1, .ref (xsA X 0)), (0, .ref b)]) hx hb dL_law_1841 hl (by decide) rfl (fun ls hl => ?_)
      refine lv_aload_n hx hb dL_law_1843 rfl (lv_at hl 4 rfl) ?_
      refine xs_calli hS (xs_runV (As := []) (rest := []) C (mX11_thrown l rfl) w_1343 w_1344 w_1345 w_115 w_1346 hd_X11_thrown (xsRmB hcs (by decide) (by decide) (by decide) (by decide)) hP hD hS lk_X11 rfl hl.1 rfl (Nat.le_of_ble_eq_true rfl) dL_law_1844) (fun H locs hP hD hS => ?_)
      replace hP := xs_toK hP
      replace hD := xs_toKD hD
      refine lv_iload hx hb dL_law_1847 (lv_at hl 1 rfl) ?_
      refine lv_icmp_eq (tgt := 1854) hx hb dL_law_1849 (by decide) (fun _ => ?_) (fun q => absurd et q)
      refine lv_iload hx hb dL_law_1854 (lv_at hl 1 rfl) ?_
      refine lv_if_ne (tgt := 1871) hx hb dL_law_1856 (by decide) (fun _ => ?_) (fun q => absurd q (ekn))
      refine lv_goto (tgt := 2175) hx hb dL_law_1871 (by decide) ?_
      exact W.widen (Nat.add_le_add_left (by decide) _) (Nat.add_le_add_left (by decide) _) (kk hR hP hD hS (lv_sub hl [2, 3, 4, 5, 6] rfl))
end XSLB
