section XSLB
variable {p : Program} {l : Launch} {e : Env} {R : Room} {s : State} {m : MethodId} {args : Array Value} {below : List Frame} {meth : Method} {c : Code} {H : Heap} {locs : List Loc} {cells slots mc ms C0 D0 b L nL nM n pc index : Nat} {Q : State → Prop} {xs : Nat → Int32}
variable {cc bb : ByteArray} {ls : Array Slot} {rest st As : List Value} {own : String} {X : xsX} {w : va_W} {y : MethodName} {ret : Option FieldType} {rm : Room} {Qc : Array Value → State → Outcome → State → Prop} {XC : String → State → State → Prop} {S : Nat → xsV} {Rw : va_W}
variable {kIsKept kIsStale hiLatest hiSize scLength scFault scAt scNumber piSegmentsNow enKind enFromX enFromY enToX enToY tiMeetingPairs tiAlongPairs tiSize evSize evCrossings evSegmentsNow grEdges grQueued huSize huBestX huBestY : Int32} {scBytes scTold tiTouching tiLyingAlong evBundle evCrossingOf evEventOf evLeftEvent evRightEvent grDegree grFar grQueue huX huY : Nat → Int32} {enX enY enLower : Int64} {evX evY evLower : Nat → Int64} {mThrown mRemembered mHasImage mIsLaid mEvents mCrossings mEdges mTaped mPoint mEnd mBegin mFaultAt mActs : Int32} {mWorld mImage mDraft mEarlier mOne mTwo mShare mCrossingOf mBundle mEventOf mDegree mFrom mTo mMet mTape mFive mTold mFar mViews mHullX mHullY mEndX mEndY mMeets mMeetsOf : Nat → Int32} {mX mY mD mHeightUp mHeightLow : Int64} {mEventX mEventY mEventD mUpper mLower : Nat → Int64} {ou : Nat → Int64}
set_option maxRecDepth 100000 in
set_option maxHeartbeats 8000000 in
theorem lc_feed {Rl : xsRel} (l : Launch) (hst : l.stackTraces = false) (hp : pc_feed Rl) {i v1 v2 v3 v4 v5 : Int32} (C : xsC p s m c cL_law #[.ref b] RL 8 X) (hX : va_X b L xs s s.heap) (hbz : b < xsZ X) (hbl : b < s.heap.size) (hi1 : vp_in (i + 1) L ∧ xs (i + 1).toNatClampNeg = v1) (hi2 : vp_in (i + 2) L ∧ xs (i + 2).toNatClampNeg = v2) (hi3 : vp_in (i + 3) L ∧ xs (i + 3).toNatClampNeg = v3) (hi4 : vp_in (i + 4) L ∧ xs (i + 4).toNatClampNeg = v4) (hi5 : vp_in (i + 5) L ∧ xs (i + 5).toNatClampNeg = v5) (hcs : xsRmC C0 D0) (hP : va_P (xsD X) vwCl (wK X kIsKept kIsStale hiLatest hiSize scBytes scTold scLength scFault scAt scNumber piSegmentsNow enKind enX enY enLower enFromX enFromY enToX enToY tiTouching tiLyingAlong tiMeetingPairs tiAlongPairs tiSize evX evY evLower evBundle evCrossingOf evEventOf evLeftEvent evRightEvent evSize evCrossings evSegmentsNow grDegree grEdges grFar grQueue grQueued huX huY huSize huBestX huBestY S (xsOc X ou :: wM X mThrown mWorld mImage mDraft mEarlier mRemembered mHasImage mIsLaid mOne mTwo mShare mX mY mD mEventX mEventY mEventD mEvents mCrossingOf mBundle mEventOf mDegree mFrom mTo mCrossings mEdges mMet mUpper mLower mTape mTaped mPoint mEnd mBegin mFaultAt mFive mTold mActs mFar mViews mHullX mHullY mEndX mEndY mHeightUp mHeightLow mMeets mMeetsOf [])) H) (hD : va_D (xsF X) (wK X kIsKept kIsStale hiLatest hiSize scBytes scTold scLength scFault scAt scNumber piSegmentsNow enKind enX enY enLower enFromX enFromY enToX enToY tiTouching tiLyingAlong tiMeetingPairs tiAlongPairs tiSize evX evY evLower evBundle evCrossingOf evEventOf evLeftEvent evRightEvent evSize evCrossings evSegmentsNow grDegree grEdges grFar grQueue grQueued huX huY huSize huBestX huBestY S (xsOc X ou :: wM X mThrown mWorld mImage mDraft mEarlier mRemembered mHasImage mIsLaid mOne mTwo mShare mX mY mD mEventX mEventY mEventD mEvents mCrossingOf mBundle mEventOf mDegree mFrom mTo mCrossings mEdges mMet mUpper mLower mTape mTaped mPoint mEnd mBegin mFaultAt mFive mTold mActs mFar mViews mHullX mHullY mEndX mEndY mHeightUp mHeightLow mMeets mMeetsOf []))) (hS : va_S (xsF X) s.heap H locs) (hl : lv_has ls 8 [(4, .int i), (3, .ref (xsA X 131)), (2, .ref (xsA X 100)), (1, .ref (xsA X 0)), (0, .ref b)]) (hR : Rl kIsKept kIsStale hiLatest hiSize scBytes scTold scLength scFault scAt scNumber piSegmentsNow enKind enX enY enLower enFromX enFromY enToX enToY tiTouching tiLyingAlong tiMeetingPairs tiAlongPairs tiSize evX evY evLower evBundle evCrossingOf evEventOf evLeftEvent evRightEvent evSize evCrossings evSegmentsNow grDegree grEdges grFar grQueue grQueued huX huY huSize huBestX huBestY S mThrown mWorld mImage mDraft mEarlier mRemembered mHasImage mIsLaid mOne mTwo mShare mX mY mD mEventX mEventY mEventD mEvents mCrossingOf mBundle mEventOf mDegree mFrom mTo mCrossings mEdges mMet mUpper mLower mTape mTaped mPoint mEnd mBegin mFaultAt mFive mTold mActs mFar mViews mHullX mHullY mEndX mEndY mHeightUp mHeightLow mMeets mMeetsOf)
    (kk : ∀ {kIsKept kIsStale hiLatest hiSize scLength scFault scAt scNumber piSegmentsNow enKind enFromX enFromY enToX enToY tiMeetingPairs tiAlongPairs tiSize evSize evCrossings evSegmentsNow grEdges grQueued huSize huBestX huBestY : Int32} {scBytes scTold tiTouching tiLyingAlong evBundle evCrossingOf evEventOf evLeftEvent evRightEvent grDegree grFar grQueue huX huY : Nat → Int32} {enX enY enLower : Int64} {evX evY evLower : Nat → Int64} {S : Nat → xsV} {mThrown mRemembered mHasImage mIsLaid mEvents mCrossings mEdges mTaped mPoint mEnd mBegin mFaultAt mActs : Int32} {mWorld mImage mDraft mEarlier mOne mTwo mShare mCrossingOf mBundle mEventOf mDegree mFrom mTo mMet mTape mFive mTold mFar mViews mHullX mHullY mEndX mEndY mMeets mMeetsOf : Nat → Int32} {mX mY mD mHeightUp mHeightLow : Int64} {mEventX mEventY mEventD mUpper mLower : Nat → Int64} {ou : Nat → Int64} {ls : Array Slot} {H : Heap} {locs : List Loc}, Rl kIsKept kIsStale hiLatest hiSize scBytes scTold scLength scFault scAt scNumber piSegmentsNow enKind enX enY enLower enFromX enFromY enToX enToY tiTouching tiLyingAlong tiMeetingPairs tiAlongPairs tiSize evX evY evLower evBundle evCrossingOf evEventOf evLeftEvent evRightEvent evSize evCrossings evSegmentsNow grDegree grEdges grFar grQueue grQueued huX huY huSize huBestX huBestY S mThrown mWorld mImage mDraft mEarlier mRemembered mHasImage mIsLaid mOne mTwo mShare mX mY mD mEventX mEventY mEventD mEvents mCrossingOf mBundle mEventOf mDegree mFrom mTo mCrossings mEdges mMet mUpper mLower mTape mTaped mPoint mEnd mBegin mFaultAt mFive mTold mActs mFar mViews mHullX mHullY mEndX mEndY mHeightUp mHeightLow mMeets mMeetsOf → va_P (xsD X) vwCl (wK X kIsKept kIsStale hiLatest hiSize scBytes scTold scLength scFault scAt scNumber piSegmentsNow enKind enX enY enLower enFromX enFromY enToX enToY tiTouching tiLyingAlong tiMeetingPairs tiAlongPairs tiSize evX evY evLower evBundle evCrossingOf evEventOf evLeftEvent evRightEvent evSize evCrossings evSegmentsNow grDegree grEdges grFar grQueue grQueued huX huY huSize huBestX huBestY S (xsOc X ou :: wM X mThrown mWorld mImage mDraft mEarlier mRemembered mHasImage mIsLaid mOne mTwo mShare mX mY mD mEventX mEventY mEventD mEvents mCrossingOf mBundle mEventOf mDegree mFrom mTo mCrossings mEdges mMet mUpper mLower mTape mTaped mPoint mEnd mBegin mFaultAt mFive mTold mActs mFar mViews mHullX mHullY mEndX mEndY mHeightUp mHeightLow mMeets mMeetsOf [])) H → va_D (xsF X) (wK X kIsKept kIsStale hiLatest hiSize scBytes scTold scLength scFault scAt scNumber piSegmentsNow enKind enX enY enLower enFromX enFromY enToX enToY tiTouching tiLyingAlong tiMeetingPairs tiAlongPairs tiSize evX evY evLower evBundle evCrossingOf evEventOf evLeftEvent evRightEvent evSize evCrossings evSegmentsNow grDegree grEdges grFar grQueue grQueued huX huY huSize huBestX huBestY S (xsOc X ou :: wM X mThrown mWorld mImage mDraft mEarlier mRemembered mHasImage mIsLaid mOne mTwo mShare mX mY mD mEventX mEventY mEventD mEvents mCrossingOf mBundle mEventOf mDegree mFrom mTo mCrossings mEdges mMet mUpper mLower mTape mTaped mPoint mEnd mBegin mFaultAt mFive mTold mActs mFar mViews mHullX mHullY mEndX mEndY mHeightUp mHeightLow mMeets mMeetsOf [])) → va_S (xsF X) s.heap H locs → lv_has ls 8 [(4, .int i), (3, .ref (xsA X 131)), (2, .ref (xsA X 100)), (1, .ref (xsA X 0)), (0, .ref b)] → W p l e room_1 s m #[.ref b] below meth c H locs (C0 + 5) (D0 + 30) Q (F0 m 2175 ls [])) :
    W p l e room_1 s m #[.ref b] below meth c H locs C0 D0 Q (F0 m 188 ls []) := by
  have hx := C.1
  have hb := C.2.1
  obtain ⟨out, mo, ef, em, hor⟩ := hp hR v1 v2 v3 v4 v5
  refine lv_aload_n hx hb dL_law_188 rfl (lv_at hl 3 rfl) ?_
  refine lv_aload_n hx hb dL_law_189 rfl (lv_at hl 4 rfl) ?_
  refine lv_iload hx hb dL_law_190 (lv_at hl 0 rfl) ?_
  refine lv_iconst (v := (1 : Int32)) hx hb dL_law_192 (by decide) ?_
  refine lv_iadd hx hb dL_law_193 ?_
  refine xs_lld C hX hbz hbl hS hi1 dL_law_194 ?_
  refine lv_aload_n hx hb dL_law_195 rfl (lv_at hl 4 rfl) ?_
  refine lv_iload hx hb dL_law_196 (lv_at hl 0 rfl) ?_
  refine lv_iconst (v := (2 : Int32)) hx hb dL_law_198 (by decide) ?_
  refine lv_iadd hx hb dL_law_199 ?_
  refine xs_lld C hX hbz hbl hS hi2 dL_law_200 ?_
  refine lv_aload_n hx hb dL_law_201 rfl (lv_at hl 4 rfl) ?_
  refine lv_iload hx hb dL_law_202 (lv_at hl 0 rfl) ?_
  refine lv_iconst (v := (3 : Int32)) hx hb dL_law_204 (by decide) ?_
  refine lv_iadd hx hb dL_law_205 ?_
  refine xs_lld C hX hbz hbl hS hi3 dL_law_206 ?_
  refine lv_aload_n hx hb dL_law_207 rfl (lv_at hl 4 rfl) ?_
  refine lv_iload hx hb dL_law_208 (lv_at hl 0 rfl) ?_
  refine lv_iconst (v := (4 : Int32)) hx hb dL_law_210 (by decide) ?_
  refine lv_iadd hx hb dL_law_211 ?_
  refine xs_lld C hX hbz hbl hS hi4 dL_law_212 ?_
  refine lv_aload_n hx hb dL_law_213 rfl (lv_at hl 4 rfl) ?_
  refine lv_iload hx hb dL_law_214 (lv_at hl 0 rfl) ?_
  refine lv_iconst (v := (5 : Int32)) hx hb dL_law_216 (by decide) ?_
  refine lv_iadd hx hb dL_law_217 ?_
  refine xs_lld C hX hbz hbl hS hi5 dL_law_218 ?_
  refine xs_calli hS (xs_runV (As := [.int v1, .int v2, .int v3, .int v4, .int v5]) (rest := []) C (mX10_feed l  ef) w_480 w_481 w_482 w_105 w_483 hd_X10_feed (xsRmA hcs (by decide) (by decide)) hP hD hS lk_X10 rfl hl.1 rfl (Nat.le_of_ble_eq_true rfl) dL_law_219) (fun H locs hP hD hS => ?_)
  replace hP := xs_toM hP
  replace hD := xs_toMD hD
  refine lv_aload_n hx hb dL_law_222 rfl (lv_at hl 2 rfl) ?_
  refine lv_aload_n hx hb dL_law_223 rfl (lv_at hl 4 rfl) ?_
  refine lv_iload hx hb dL_law_224 (lv_at hl 0 rfl) ?_
  refine lv_iconst (v := (1 : Int32)) hx hb dL_law_226 (by decide) ?_
  refine lv_iadd hx hb dL_law_227 ?_
  refine xs_lld C hX hbz hbl hS hi1 dL_law_228 ?_
  refine lv_aload_n hx hb dL_law_229 rfl (lv_at hl 4 rfl) ?_
  refine lv_iload hx hb dL_law_230 (lv_at hl 0 rfl) ?_
  refine lv_iconst (v := (2 : Int32)) hx hb dL_law_232 (by decide) ?_
  refine lv_iadd hx hb dL_law_233 ?_
  refine xs_lld C hX hbz hbl hS hi2 dL_law_234 ?_
  refine lv_aload_n hx hb dL_law_235 rfl (lv_at hl 4 rfl) ?_
  refine lv_iload hx hb dL_law_236 (lv_at hl 0 rfl) ?_
  refine lv_iconst (v := (3 : Int32)) hx hb dL_law_238 (by decide) ?_
  refine lv_iadd hx hb dL_law_239 ?_
  refine xs_lld C hX hbz hbl hS hi3 dL_law_240 ?_
  refine lv_aload_n hx hb dL_law_241 rfl (lv_at hl 4 rfl) ?_
  refine lv_iload hx hb dL_law_242 (lv_at hl 0 rfl) ?_
  refine lv_iconst (v := (4 : Int32)) hx hb dL_law_244 (by decide) ?_
  refine lv_iadd hx hb dL_law_245 ?_
  refine xs_lld C hX hbz hbl hS hi4 dL_law_246 ?_
  refine lv_aload_n hx hb dL_law_247 rfl (lv_at hl 4 rfl) ?_
  refine lv_iload hx hb dL_law_248 (lv_at hl 0 rfl) ?_
  refine lv_iconst (v := (5 : Int32)) hx hb dL_law_250 (by decide) ?_
  refine lv_iadd hx hb dL_law_251 ?_
  refine xs_lld C hX hbz hbl hS hi5 dL_law_252 ?_
  refine xs_calli hS (xs_runV (As := [.int v1, .int v2, .int v3, .int v4, .int v5]) (rest := [.int out.1]) C (mX11_feed l em) w_1517 w_1518 w_1519 w_115 w_1520 hd_X11_feed (xsRmA hcs (by decide) (by decide)) hP hD hS lk_X11 rfl hl.1 rfl (Nat.le_of_ble_eq_true rfl) dL_law_253) (fun H locs hP hD hS => ?_)
  replace hP := xs_toK hP
  replace hD := xs_toKD hD
  refine lv_icmp_eq (tgt := 2175) hx hb dL_law_256 (by decide) (fun _ => ?_) (fun q => absurd hor.1 q)
  exact W.widen (Nat.le_add_right _ _) (Nat.le_add_right _ _) (kk hor.2 hP hD hS hl)
set_option maxRecDepth 100000 in
set_option maxHeartbeats 8000000 in
theorem lc_end {Rl : xsRel} (l : Launch) (hst : l.stackTraces = false) (hp : pc_end Rl) {i v1 v2 v3 v4 v5 : Int32} (C : xsC p s m c cL_law #[.ref b] RL 8 X) (hX : va_X b L xs s s.heap) (hbz : b < xsZ X) (hbl : b < s.heap.size) (hi1 : vp_in (i + 1) L ∧ xs (i + 1).toNatClampNeg = v1) (hi2 : vp_in (i + 2) L ∧ xs (i + 2).toNatClampNeg = v2) (hi3 : vp_in (i + 3) L ∧ xs (i + 3).toNatClampNeg = v3) (hi4 : vp_in (i + 4) L ∧ xs (i + 4).toNatClampNeg = v4) (hi5 : vp_in (i + 5) L ∧ xs (i + 5).toNatClampNeg = v5) (hcs : xsRmC C0 D0) (hP : va_P (xsD X) vwCl (wK X kIsKept kIsStale hiLatest hiSize scBytes scTold scLength scFault scAt scNumber piSegmentsNow enKind enX enY enLower enFromX enFromY enToX enToY tiTouching tiLyingAlong tiMeetingPairs tiAlongPairs tiSize evX evY evLower evBundle evCrossingOf evEventOf evLeftEvent evRightEvent evSize evCrossings evSegmentsNow grDegree grEdges grFar grQueue grQueued huX huY huSize huBestX huBestY S (xsOc X ou :: wM X mThrown mWorld mImage mDraft mEarlier mRemembered mHasImage mIsLaid mOne mTwo mShare mX mY mD mEventX mEventY mEventD mEvents mCrossingOf mBundle mEventOf mDegree mFrom mTo mCrossings mEdges mMet mUpper mLower mTape mTaped mPoint mEnd mBegin mFaultAt mFive mTold mActs mFar mViews mHullX mHullY mEndX mEndY mHeightUp mHeightLow mMeets mMeetsOf [])) H) (hD : va_D (xsF X) (wK X kIsKept kIsStale hiLatest hiSize scBytes scTold scLength scFault scAt scNumber piSegmentsNow enKind enX enY enLower enFromX enFromY enToX enToY tiTouching tiLyingAlong tiMeetingPairs tiAlongPairs tiSize evX evY evLower evBundle evCrossingOf evEventOf evLeftEvent evRightEvent evSize evCrossings evSegmentsNow grDegree grEdges grFar grQueue grQueued huX huY huSize huBestX huBestY S (xsOc X ou :: wM X mThrown mWorld mImage mDraft mEarlier mRemembered mHasImage mIsLaid mOne mTwo mShare mX mY mD mEventX mEventY mEventD mEvents mCrossingOf mBundle mEventOf mDegree mFrom mTo mCrossings mEdges mMet mUpper mLower mTape mTaped mPoint mEnd mBegin mFaultAt mFive mTold mActs mFar mViews mHullX mHullY mEndX mEndY mHeightUp mHeightLow mMeets mMeetsOf []))) (hS : va_S (xsF X) s.heap H locs) (hl : lv_has ls 8 [(4, .int i), (3, .ref (xsA X 131)), (2, .ref (xsA X 100)), (1, .ref (xsA X 0)), (0, .ref b)]) (hR : Rl kIsKept kIsStale hiLatest hiSize scBytes scTold scLength scFault scAt scNumber piSegmentsNow enKind enX enY enLower enFromX enFromY enToX enToY tiTouching tiLyingAlong tiMeetingPairs tiAlongPairs tiSize evX evY evLower evBundle evCrossingOf evEventOf evLeftEvent evRightEvent evSize evCrossings evSegmentsNow grDegree grEdges grFar grQueue grQueued huX huY huSize huBestX huBestY S mThrown mWorld mImage mDraft mEarlier mRemembered mHasImage mIsLaid mOne mTwo mShare mX mY mD mEventX mEventY mEventD mEvents mCrossingOf mBundle mEventOf mDegree mFrom mTo mCrossings mEdges mMet mUpper mLower mTape mTaped mPoint mEnd mBegin mFaultAt mFive mTold mActs mFar mViews mHullX mHullY mEndX mEndY mHeightUp mHeightLow mMeets mMeetsOf)
    (kk : ∀ {kIsKept kIsStale hiLatest hiSize scLength scFault scAt scNumber piSegmentsNow enKind enFromX enFromY enToX enToY tiMeetingPairs tiAlongPairs tiSize evSize evCrossings evSegmentsNow grEdges grQueued huSize huBestX huBestY : Int32} {scBytes scTold tiTouching tiLyingAlong evBundle evCrossingOf evEventOf evLeftEvent evRightEvent grDegree grFar grQueue huX huY : Nat → Int32} {enX enY enLower : Int64} {evX evY evLower : Nat → Int64} {S : Nat → xsV} {mThrown mRemembered mHasImage mIsLaid mEvents mCrossings mEdges mTaped mPoint mEnd mBegin mFaultAt mActs : Int32} {mWorld mImage mDraft mEarlier mOne mTwo mShare mCrossingOf mBundle mEventOf mDegree mFrom mTo mMet mTape mFive mTold mFar mViews mHullX mHullY mEndX mEndY mMeets mMeetsOf : Nat → Int32} {mX mY mD mHeightUp mHeightLow : Int64} {mEventX mEventY mEventD mUpper mLower : Nat → Int64} {ou : Nat → Int64} {ls : Array Slot} {H : Heap} {locs : List Loc}, Rl kIsKept kIsStale hiLatest hiSize scBytes scTold scLength scFault scAt scNumber piSegmentsNow enKind enX enY enLower enFromX enFromY enToX enToY tiTouching tiLyingAlong tiMeetingPairs tiAlongPairs tiSize evX evY evLower evBundle evCrossingOf evEventOf evLeftEvent evRightEvent evSize evCrossings evSegmentsNow grDegree grEdges grFar grQueue grQueued huX huY huSize huBestX huBestY S mThrown mWorld mImage mDraft mEarlier mRemembered mHasImage mIsLaid mOne mTwo mShare mX mY mD mEventX mEventY mEventD mEvents mCrossingOf mBundle mEventOf mDegree mFrom mTo mCrossings mEdges mMet mUpper mLower mTape mTaped mPoint mEnd mBegin mFaultAt mFive mTold mActs mFar mViews mHullX mHullY mEndX mEndY mHeightUp mHeightLow mMeets mMeetsOf → va_P (xsD X) vwCl (wK X kIsKept kIsStale hiLatest hiSize scBytes scTold scLength scFault scAt scNumber piSegmentsNow enKind enX enY enLower enFromX enFromY enToX enToY tiTouching tiLyingAlong tiMeetingPairs tiAlongPairs tiSize evX evY evLower evBundle evCrossingOf evEventOf evLeftEvent evRightEvent evSize evCrossings evSegmentsNow grDegree grEdges grFar grQueue grQueued huX huY huSize huBestX huBestY S (xsOc X ou :: wM X mThrown mWorld mImage mDraft mEarlier mRemembered mHasImage mIsLaid mOne mTwo mShare mX mY mD mEventX mEventY mEventD mEvents mCrossingOf mBundle mEventOf mDegree mFrom mTo mCrossings mEdges mMet mUpper mLower mTape mTaped mPoint mEnd mBegin mFaultAt mFive mTold mActs mFar mViews mHullX mHullY mEndX mEndY mHeightUp mHeightLow mMeets mMeetsOf [])) H → va_D (xsF X) (wK X kIsKept kIsStale hiLatest hiSize scBytes scTold scLength scFault scAt scNumber piSegmentsNow enKind enX enY enLower enFromX enFromY enToX enToY tiTouching tiLyingAlong tiMeetingPairs tiAlongPairs tiSize evX evY evLower evBundle evCrossingOf evEventOf evLeftEvent evRightEvent evSize evCrossings evSegmentsNow grDegree grEdges grFar grQueue grQueued huX huY huSize huBestX huBestY S (xsOc X ou :: wM X mThrown mWorld mImage mDraft mEarlier mRemembered mHasImage mIsLaid mOne mTwo mShare mX mY mD mEventX mEventY mEventD mEvents mCrossingOf mBundle mEventOf mDegree mFrom mTo mCrossings mEdges mMet mUpper mLower mTape mTaped mPoint mEnd mBegin mFaultAt mFive mTold mActs mFar mViews mHullX mHullY mEndX mEndY mHeightUp mHeightLow mMeets mMeetsOf [])) → va_S (xsF X) s.heap H locs → lv_has ls 8 [(4, .int i), (3, .ref (xsA X 131)), (2, .ref (xsA X 100)), (1, .ref (xsA X 0)), (0, .ref b)] → W p l e room_1 s m #[.ref b] below meth c H locs (C0 + 5) (D0 + 30) Q (F0 m 2175 ls [])) :
    W p l e room_1 s m #[.ref b] below meth c H locs C0 D0 Q (F0 m 261 ls []) := by
  have hx := C.1
  have hb := C.2.1
  obtain ⟨out, mo, ef, em, hor⟩ := hp hR v1
  refine lv_aload_n hx hb dL_law_261 rfl (lv_at hl 3 rfl) ?_
  refine lv_aload_n hx hb dL_law_262 rfl (lv_at hl 4 rfl) ?_
  refine lv_iload hx hb dL_law_263 (lv_at hl 0 rfl) ?_
  refine lv_iconst (v := (1 : Int32)) hx hb dL_law_265 (by decide) ?_
  refine lv_iadd hx hb dL_law_266 ?_
  refine xs_lld C hX hbz hbl hS hi1 dL_law_267 ?_
  refine xs_calli hS (xs_runV (As := [.int v1]) (rest := []) C (mX10_end l  ef) w_492 w_493 w_494 w_105 w_495 hd_X10_end (xsRmA hcs (by decide) (by decide)) hP hD hS lk_X10 rfl hl.1 rfl (Nat.le_of_ble_eq_true rfl) dL_law_268) (fun H locs hP hD hS => ?_)
  replace hP := xs_toM hP
  replace hD := xs_toMD hD
  refine lv_aload_n hx hb dL_law_271 rfl (lv_at hl 2 rfl) ?_
  refine lv_aload_n hx hb dL_law_272 rfl (lv_at hl 4 rfl) ?_
  refine lv_iload hx hb dL_law_273 (lv_at hl 0 rfl) ?_
  refine lv_iconst (v := (1 : Int32)) hx hb dL_law_275 (by decide) ?_
  refine lv_iadd hx hb dL_law_276 ?_
  refine xs_lld C hX hbz hbl hS hi1 dL_law_277 ?_
  refine xs_calli hS (xs_runV (As := [.int v1]) (rest := [.int out.1]) C (mX11_end l em) w_1521 w_1522 w_1523 w_115 w_1524 hd_X11_end (xsRmA hcs (by decide) (by decide)) hP hD hS lk_X11 rfl hl.1 rfl (Nat.le_of_ble_eq_true rfl) dL_law_278) (fun H locs hP hD hS => ?_)
  replace hP := xs_toK hP
  replace hD := xs_toKD hD
  refine lv_icmp_eq (tgt := 2175) hx hb dL_law_281 (by decide) (fun _ => ?_) (fun q => absurd hor.1 q)
  exact W.widen (Nat.le_add_right _ _) (Nat.le_add_right _ _) (kk hor.2 hP hD hS hl)
set_option maxRecDepth 100000 in
set_option maxHeartbeats 8000000 in
theorem lc_acts {Rl : xsRel} (l : Launch) (hst : l.stackTraces = false) (hp : pc_acts Rl) {i v1 v2 v3 v4 v5 : Int32} (C : xsC p s m c cL_law #[.ref b] RL 8 X) (hX : va_X b L xs s s.heap) (hbz : b < xsZ X) (hbl : b < s.heap.size) (hi1 : vp_in (i + 1) L ∧ xs (i + 1).toNatClampNeg = v1) (hi2 : vp_in (i + 2) L ∧ xs (i + 2).toNatClampNeg = v2) (hi3 : vp_in (i + 3) L ∧ xs (i + 3).toNatClampNeg = v3) (hi4 : vp_in (i + 4) L ∧ xs (i + 4).toNatClampNeg = v4) (hi5 : vp_in (i + 5) L ∧ xs (i + 5).toNatClampNeg = v5) (hcs : xsRmC C0 D0) (hP : va_P (xsD X) vwCl (wK X kIsKept kIsStale hiLatest hiSize scBytes scTold scLength scFault scAt scNumber piSegmentsNow enKind enX enY enLower enFromX enFromY enToX enToY tiTouching tiLyingAlong tiMeetingPairs tiAlongPairs tiSize evX evY evLower evBundle evCrossingOf evEventOf evLeftEvent evRightEvent evSize evCrossings evSegmentsNow grDegree grEdges grFar grQueue grQueued huX huY huSize huBestX huBestY S (xsOc X ou :: wM X mThrown mWorld mImage mDraft mEarlier mRemembered mHasImage mIsLaid mOne mTwo mShare mX mY mD mEventX mEventY mEventD mEvents mCrossingOf mBundle mEventOf mDegree mFrom mTo mCrossings mEdges mMet mUpper mLower mTape mTaped mPoint mEnd mBegin mFaultAt mFive mTold mActs mFar mViews mHullX mHullY mEndX mEndY mHeightUp mHeightLow mMeets mMeetsOf [])) H) (hD : va_D (xsF X) (wK X kIsKept kIsStale hiLatest hiSize scBytes scTold scLength scFault scAt scNumber piSegmentsNow enKind enX enY enLower enFromX enFromY enToX enToY tiTouching tiLyingAlong tiMeetingPairs tiAlongPairs tiSize evX evY evLower evBundle evCrossingOf evEventOf evLeftEvent evRightEvent evSize evCrossings evSegmentsNow grDegree grEdges grFar grQueue grQueued huX huY huSize huBestX huBestY S (xsOc X ou :: wM X mThrown mWorld mImage mDraft mEarlier mRemembered mHasImage mIsLaid mOne mTwo mShare mX mY mD mEventX mEventY mEventD mEvents mCrossingOf mBundle mEventOf mDegree mFrom mTo mCrossings mEdges mMet mUpper mLower mTape mTaped mPoint mEnd mBegin mFaultAt mFive mTold mActs mFar mViews mHullX mHullY mEndX mEndY mHeightUp mHeightLow mMeets mMeetsOf []))) (hS : va_S (xsF X) s.heap H locs) (hl : lv_has ls 8 [(4, .int i), (3, .ref (xsA X 131)), (2, .ref (xsA X 100)), (1, .ref (xsA X 0)), (0, .ref b)]) (hR : Rl kIsKept kIsStale hiLatest hiSize scBytes scTold scLength scFault scAt scNumber piSegmentsNow enKind enX enY enLower enFromX enFromY enToX enToY tiTouching tiLyingAlong tiMeetingPairs tiAlongPairs tiSize evX evY evLower evBundle evCrossingOf evEventOf evLeftEvent evRightEvent evSize evCrossings evSegmentsNow grDegree grEdges grFar grQueue grQueued huX huY huSize huBestX huBestY S mThrown mWorld mImage mDraft mEarlier mRemembered mHasImage mIsLaid mOne mTwo mShare mX mY mD mEventX mEventY mEventD mEvents mCrossingOf mBundle mEventOf mDegree mFrom mTo mCrossings mEdges mMet mUpper mLower mTape mTaped mPoint mEnd mBegin mFaultAt mFive mTold mActs mFar mViews mHullX mHullY mEndX mEndY mHeightUp mHeightLow mMeets mMeetsOf)
    (kk : ∀ {kIsKept kIsStale hiLatest hiSize scLength scFault scAt scNumber piSegmentsNow enKind enFromX enFromY enToX enToY tiMeetingPairs tiAlongPairs tiSize evSize evCrossings evSegmentsNow grEdges grQueued huSize huBestX huBestY : Int32} {scBytes scTold tiTouching tiLyingAlong evBundle evCrossingOf evEventOf evLeftEvent evRightEvent grDegree grFar grQueue huX huY : Nat → Int32} {enX enY enLower : Int64} {evX evY evLower : Nat → Int64} {S : Nat → xsV} {mThrown mRemembered mHasImage mIsLaid mEvents mCrossings mEdges mTaped mPoint mEnd mBegin mFaultAt mActs : Int32} {mWorld mImage mDraft mEarlier mOne mTwo mShare mCrossingOf mBundle mEventOf mDegree mFrom mTo mMet mTape mFive mTold mFar mViews mHullX mHullY mEndX mEndY mMeets mMeetsOf : Nat → Int32} {mX mY mD mHeightUp mHeightLow : Int64} {mEventX mEventY mEventD mUpper mLower : Nat → Int64} {ou : Nat → Int64} {ls : Array Slot} {H : Heap} {locs : List Loc}, Rl kIsKept kIsStale hiLatest hiSize scBytes scTold scLength scFault scAt scNumber piSegmentsNow enKind enX enY enLower enFromX enFromY enToX enToY tiTouching tiLyingAlong tiMeetingPairs tiAlongPairs tiSize evX evY evLower evBundle evCrossingOf evEventOf evLeftEvent evRightEvent evSize evCrossings evSegmentsNow grDegree grEdges grFar grQueue grQueued huX huY huSize huBestX huBestY S mThrown mWorld mImage mDraft mEarlier mRemembered mHasImage mIsLaid mOne mTwo mShare mX mY mD mEventX mEventY mEventD mEvents mCrossingOf mBundle mEventOf mDegree mFrom mTo mCrossings mEdges mMet mUpper mLower mTape mTaped mPoint mEnd mBegin mFaultAt mFive mTold mActs mFar mViews mHullX mHullY mEndX mEndY mHeightUp mHeightLow mMeets mMeetsOf → va_P (xsD X) vwCl (wK X kIsKept kIsStale hiLatest hiSize scBytes scTold scLength scFault scAt scNumber piSegmentsNow enKind enX enY enLower enFromX enFromY enToX enToY tiTouching tiLyingAlong tiMeetingPairs tiAlongPairs tiSize evX evY evLower evBundle evCrossingOf evEventOf evLeftEvent evRightEvent evSize evCrossings evSegmentsNow grDegree grEdges grFar grQueue grQueued huX huY huSize huBestX huBestY S (xsOc X ou :: wM X mThrown mWorld mImage mDraft mEarlier mRemembered mHasImage mIsLaid mOne mTwo mShare mX mY mD mEventX mEventY mEventD mEvents mCrossingOf mBundle mEventOf mDegree mFrom mTo mCrossings mEdges mMet mUpper mLower mTape mTaped mPoint mEnd mBegin mFaultAt mFive mTold mActs mFar mViews mHullX mHullY mEndX mEndY mHeightUp mHeightLow mMeets mMeetsOf [])) H → va_D (xsF X) (wK X kIsKept kIsStale hiLatest hiSize scBytes scTold scLength scFault scAt scNumber piSegmentsNow enKind enX enY enLower enFromX enFromY enToX enToY tiTouching tiLyingAlong tiMeetingPairs tiAlongPairs tiSize evX evY evLower evBundle evCrossingOf evEventOf evLeftEvent evRightEvent evSize evCrossings evSegmentsNow grDegree grEdges grFar grQueue grQueued huX huY huSize huBestX huBestY S (xsOc X ou :: wM X mThrown mWorld mImage mDraft mEarlier mRemembered mHasImage mIsLaid mOne mTwo mShare mX mY mD mEventX mEventY mEventD mEvents mCrossingOf mBundle mEventOf mDegree mFrom mTo mCrossings mEdges mMet mUpper mLower mTape mTaped mPoint mEnd mBegin mFaultAt mFive mTold mActs mFar mViews mHullX mHullY mEndX mEndY mHeightUp mHeightLow mMeets mMeetsOf [])) → va_S (xsF X) s.heap H locs → lv_has ls 8 [(4, .int i), (3, .ref (xsA X 131)), (2, .ref (xsA X 100)), (1, .ref (xsA X 0)), (0, .ref b)] → W p l e room_1 s m #[.ref b] below meth c H locs (C0 + 5) (D0 + 30) Q (F0 m 2175 ls [])) :
    W p l e room_1 s m #[.ref b] below meth c H locs C0 D0 Q (F0 m 286 ls []) := by
  have hx := C.1
  have hb := C.2.1
  obtain ⟨out, mo, ef, em, hor⟩ := hp hR 
  rcases hor with ⟨tt, eo, ea, et, hR⟩ | ⟨n, tt, eo, en, et, hR⟩
  · subst eo
    refine lv_aload_n hx hb dL_law_286 rfl (lv_at hl 3 rfl) ?_
    refine lv_aload_n hx hb dL_law_287 rfl (lv_at hl 1 rfl) ?_
    refine xs_lcalli hS (xs_lrunS (As := [.ref (xsA X 0), .ref (xsA X 131)]) (rest := []) C (mL_acts l hst (xs_eta (S 0)) (xs_eta (S 3)) ef (fun n tt h => by cases h)) w_765 w_766 w_104 w_767 hd_L_acts (xsRmL hcs (by decide) (by decide) (by decide) (by decide)) hP hD hS hl.1 rfl (Nat.le_of_ble_eq_true rfl) dL_law_288) (fun r u H locs hq hP hD hS => ?_)
    rcases hq with ⟨tx, e1, e2, e3⟩ | ⟨n, tx, e1, e2, e3⟩
    · cases e1
      subst e3
      subst e2
      refine lv_istore (lv' := [(5, .int 0), (4, .int i), (3, .ref (xsA X 131)), (2, .ref (xsA X 100)), (1, .ref (xsA X 0)), (0, .ref b)]) hx hb dL_law_291 hl (by decide) rfl (fun ls hl => ?_)
      refine lv_aload_n hx hb dL_law_293 rfl (lv_at hl 3 rfl) ?_
      replace hP := xs_toM hP
      replace hD := xs_toMD hD
      refine xs_calli hS (xs_runV (As := []) (rest := []) C (mX11_acts l em) w_1529 w_1530 w_1531 w_115 w_1532 hd_X11_acts (xsRmB hcs (by decide) (by decide) (by decide) (by decide)) hP hD hS lk_X11 rfl hl.1 rfl (Nat.le_of_ble_eq_true rfl) dL_law_294) (fun H locs hP hD hS => ?_)
      refine lv_istore (lv' := [(6, .int mo.1), (5, .int 0), (4, .int i), (3, .ref (xsA X 131)), (2, .ref (xsA X 100)), (1, .ref (xsA X 0)), (0, .ref b)]) hx hb dL_law_297 hl (by decide) rfl (fun ls hl => ?_)
      refine lv_aload_n hx hb dL_law_299 rfl (lv_at hl 4 rfl) ?_
      refine xs_calli hS (xs_runV (As := []) (rest := []) C (mX11_thrown l rfl) w_1343 w_1344 w_1345 w_115 w_1346 hd_X11_thrown (xsRmB hcs (by decide) (by decide) (by decide) (by decide)) hP hD hS lk_X11 rfl hl.1 rfl (Nat.le_of_ble_eq_true rfl) dL_law_300) (fun H locs hP hD hS => ?_)
      replace hP := xs_toK hP
      replace hD := xs_toKD hD
      refine lv_iload hx hb dL_law_303 (lv_at hl 1 rfl) ?_
      refine lv_icmp_eq (tgt := 310) hx hb dL_law_305 (by decide) (fun _ => ?_) (fun q => absurd et q)
      refine lv_iload hx hb dL_law_310 (lv_at hl 1 rfl) ?_
      refine lv_if_ne (tgt := 327) hx hb dL_law_312 (by decide) (fun q => absurd rfl q) (fun _ => ?_)
      refine lv_aload_n hx hb dL_law_315 rfl (lv_at hl 3 rfl) ?_
      refine lv_iconst (v := (0 : Int32)) hx hb dL_law_316 (by decide) ?_
      refine xs_lald C hP (q0 := 99) rfl (vp_in_nI (n := 0) (by decide) (by decide)) dL_law_317 ?_
      refine lv_iload hx hb dL_law_318 (lv_at hl 0 rfl) ?_
      refine lv_i2l hx hb dL_law_320 rfl ?_
      refine xs_lcmp_eq (tgt := 327) C dL_law_321 dL_law_322 (by decide) (fun _ => ?_) (fun q => absurd (xs_ou0 (congrArg Int32.toInt64 ea)) q)
      refine lv_goto (tgt := 2175) hx hb dL_law_327 (by decide) ?_
      exact W.widen (Nat.add_le_add_left (by decide) _) (Nat.add_le_add_left (by decide) _) (kk hR hP hD hS (lv_sub hl [2, 3, 4, 5, 6] rfl))
    · cases e1
  · subst eo
    refine lv_aload_n hx hb dL_law_286 rfl (lv_at hl 3 rfl) ?_
    refine lv_aload_n hx hb dL_law_287 rfl (lv_at hl 1 rfl) ?_
    refine xs_lcalli hS (xs_lrunS (As := [.ref (xsA X 0), .ref (xsA X 131)]) (rest := []) C (mL_acts l hst (xs_eta (S 0)) (xs_eta (S 3)) ef (fun n2 t2 h => by cases h; exact en)) w_765 w_766 w_104 w_767 hd_L_acts (xsRmL hcs (by decide) (by decide) (by decide) (by decide)) hP hD hS hl.1 rfl (Nat.le_of_ble_eq_true rfl) dL_law_288) (fun r u H locs hq hP hD hS => ?_)
    rcases hq with ⟨tx, e1, e2, e3⟩ | ⟨n2, tx, e1, e2, e3⟩
    · cases e1
    · cases e1
      subst e3
      have ekn : ¬ r = 0 := by rw [e2]; rw [en]; decide
      replace et := et.trans e2.symm
      refine lv_istore (lv' := [(5, .int r), (4, .int i), (3, .ref (xsA X 131)), (2, .ref (xsA X 100)), (1, .ref (xsA X 0)), (0, .ref b)]) hx hb dL_law_291 hl (by decide) rfl (fun ls hl => ?_)
      refine lv_aload_n hx hb dL_law_293 rfl (lv_at hl 3 rfl) ?_
      replace hP := xs_toM hP
      replace hD := xs_toMD hD
      refine xs_calli hS (xs_runV (As := []) (rest := []) C (mX11_acts l em) w_1529 w_1530 w_1531 w_115 w_1532 hd_X11_acts (xsRmB hcs (by decide) (by decide) (by decide) (by decide)) hP hD hS lk_X11 rfl hl.1 rfl (Nat.le_of_ble_eq_true rfl) dL_law_294) (fun H locs hP hD hS => ?_)
      refine lv_istore (lv' := [(6, .int mo.1), (5, .int r), (4, .int i), (3, .ref (xsA X 131)), (2, .ref (xsA X 100)), (1, .ref (xsA X 0)), (0, .ref b)]) hx hb dL_law_297 hl (by decide) rfl (fun ls hl => ?_)
      refine lv_aload_n hx hb dL_law_299 rfl (lv_at hl 4 rfl) ?_
      refine xs_calli hS (xs_runV (As := []) (rest := []) C (mX11_thrown l rfl) w_1343 w_1344 w_1345 w_115 w_1346 hd_X11_thrown (xsRmB hcs (by decide) (by decide) (by decide) (by decide)) hP hD hS lk_X11 rfl hl.1 rfl (Nat.le_of_ble_eq_true rfl) dL_law_300) (fun H locs hP hD hS => ?_)
      replace hP := xs_toK hP
      replace hD := xs_toKD hD
      refine lv_iload hx hb dL_law_303 (lv_at hl 1 rfl) ?_
      refine lv_icmp_eq (tgt := 310) hx hb dL_law_305 (by decide) (fun _ => ?_) (fun q => absurd et q)
      refine lv_iload hx hb dL_law_310 (lv_at hl 1 rfl) ?_
      refine lv_if_ne (tgt := 327) hx hb dL_law_312 (by decide) (fun _ => ?_) (fun q => absurd q (ekn))
      refine lv_goto (tgt := 2175) hx hb dL_law_327 (by decide) ?_
      exact W.widen (Nat.add_le_add_left (by decide) _) (Nat.add_le_add_left (by decide) _) (kk hR hP hD hS (lv_sub hl [2, 3, 4, 5, 6] rfl))
set_option maxRecDepth 100000 in
set_option maxHeartbeats 8000000 in
theorem lc_fault {Rl : xsRel} (l : Launch) (hst : l.stackTraces = false) (hp : pc_fault Rl) {i v1 v2 v3 v4 v5 : Int32} (C : xsC p s m c cL_law #[.ref b] RL 8 X) (hX : va_X b L xs s s.heap) (hbz : b < xsZ X) (hbl : b < s.heap.size) (hi1 : vp_in (i + 1) L ∧ xs (i + 1).toNatClampNeg = v1) (hi2 : vp_in (i + 2) L ∧ xs (i + 2).toNatClampNeg = v2) (hi3 : vp_in (i + 3) L ∧ xs (i + 3).toNatClampNeg = v3) (hi4 : vp_in (i + 4) L ∧ xs (i + 4).toNatClampNeg = v4) (hi5 : vp_in (i + 5) L ∧ xs (i + 5).toNatClampNeg = v5) (hcs : xsRmC C0 D0) (hP : va_P (xsD X) vwCl (wK X kIsKept kIsStale hiLatest hiSize scBytes scTold scLength scFault scAt scNumber piSegmentsNow enKind enX enY enLower enFromX enFromY enToX enToY tiTouching tiLyingAlong tiMeetingPairs tiAlongPairs tiSize evX evY evLower evBundle evCrossingOf evEventOf evLeftEvent evRightEvent evSize evCrossings evSegmentsNow grDegree grEdges grFar grQueue grQueued huX huY huSize huBestX huBestY S (xsOc X ou :: wM X mThrown mWorld mImage mDraft mEarlier mRemembered mHasImage mIsLaid mOne mTwo mShare mX mY mD mEventX mEventY mEventD mEvents mCrossingOf mBundle mEventOf mDegree mFrom mTo mCrossings mEdges mMet mUpper mLower mTape mTaped mPoint mEnd mBegin mFaultAt mFive mTold mActs mFar mViews mHullX mHullY mEndX mEndY mHeightUp mHeightLow mMeets mMeetsOf [])) H) (hD : va_D (xsF X) (wK X kIsKept kIsStale hiLatest hiSize scBytes scTold scLength scFault scAt scNumber piSegmentsNow enKind enX enY enLower enFromX enFromY enToX enToY tiTouching tiLyingAlong tiMeetingPairs tiAlongPairs tiSize evX evY evLower evBundle evCrossingOf evEventOf evLeftEvent evRightEvent evSize evCrossings evSegmentsNow grDegree grEdges grFar grQueue grQueued huX huY huSize huBestX huBestY S (xsOc X ou :: wM X mThrown mWorld mImage mDraft mEarlier mRemembered mHasImage mIsLaid mOne mTwo mShare mX mY mD mEventX mEventY mEventD mEvents mCrossingOf mBundle mEventOf mDegree mFrom mTo mCrossings mEdges mMet mUpper mLower mTape mTaped mPoint mEnd mBegin mFaultAt mFive mTold mActs mFar mViews mHullX mHullY mEndX mEndY mHeightUp mHeightLow mMeets mMeetsOf []))) (hS : va_S (xsF X) s.heap H locs) (hl : lv_has ls 8 [(4, .int i), (3, .ref (xsA X 131)), (2, .ref (xsA X 100)), (1, .ref (xsA X 0)), (0, .ref b)]) (hR : Rl kIsKept kIsStale hiLatest hiSize scBytes scTold scLength scFault scAt scNumber piSegmentsNow enKind enX enY enLower enFromX enFromY enToX enToY tiTouching tiLyingAlong tiMeetingPairs tiAlongPairs tiSize evX evY evLower evBundle evCrossingOf evEventOf evLeftEvent evRightEvent evSize evCrossings evSegmentsNow grDegree grEdges grFar grQueue grQueued huX huY huSize huBestX huBestY S mThrown mWorld mImage mDraft mEarlier mRemembered mHasImage mIsLaid mOne mTwo mShare mX mY mD mEventX mEventY mEventD mEvents mCrossingOf mBundle mEventOf mDegree mFrom mTo mCrossings mEdges mMet mUpper mLower mTape mTaped mPoint mEnd mBegin mFaultAt mFive mTold mActs mFar mViews mHullX mHullY mEndX mEndY mHeightUp mHeightLow mMeets mMeetsOf)
    (kk : ∀ {kIsKept kIsStale hiLatest hiSize scLength scFault scAt scNumber piSegmentsNow enKind enFromX enFromY enToX enToY tiMeetingPairs tiAlongPairs tiSize evSize evCrossings evSegmentsNow grEdges grQueued huSize huBestX huBestY : Int32} {scBytes scTold tiTouching tiLyingAlong evBundle evCrossingOf evEventOf evLeftEvent evRightEvent grDegree grFar grQueue huX huY : Nat → Int32} {enX enY enLower : Int64} {evX evY evLower : Nat → Int64} {S : Nat → xsV} {mThrown mRemembered mHasImage mIsLaid mEvents mCrossings mEdges mTaped mPoint mEnd mBegin mFaultAt mActs : Int32} {mWorld mImage mDraft mEarlier mOne mTwo mShare mCrossingOf mBundle mEventOf mDegree mFrom mTo mMet mTape mFive mTold mFar mViews mHullX mHullY mEndX mEndY mMeets mMeetsOf : Nat → Int32} {mX mY mD mHeightUp mHeightLow : Int64} {mEventX mEventY mEventD mUpper mLower : Nat → Int64} {ou : Nat → Int64} {ls : Array Slot} {H : Heap} {locs : List Loc}, Rl kIsKept kIsStale hiLatest hiSize scBytes scTold scLength scFault scAt scNumber piSegmentsNow enKind enX enY enLower enFromX enFromY enToX enToY tiTouching tiLyingAlong tiMeetingPairs tiAlongPairs tiSize evX evY evLower evBundle evCrossingOf evEventOf evLeftEvent evRightEvent evSize evCrossings evSegmentsNow grDegree grEdges grFar grQueue grQueued huX huY huSize huBestX huBestY S mThrown mWorld mImage mDraft mEarlier mRemembered mHasImage mIsLaid mOne mTwo mShare mX mY mD mEventX mEventY mEventD mEvents mCrossingOf mBundle mEventOf mDegree mFrom mTo mCrossings mEdges mMet mUpper mLower mTape mTaped mPoint mEnd mBegin mFaultAt mFive mTold mActs mFar mViews mHullX mHullY mEndX mEndY mHeightUp mHeightLow mMeets mMeetsOf → va_P (xsD X) vwCl (wK X kIsKept kIsStale hiLatest hiSize scBytes scTold scLength scFault scAt scNumber piSegmentsNow enKind enX enY enLower enFromX enFromY enToX enToY tiTouching tiLyingAlong tiMeetingPairs tiAlongPairs tiSize evX evY evLower evBundle evCrossingOf evEventOf evLeftEvent evRightEvent evSize evCrossings evSegmentsNow grDegree grEdges grFar grQueue grQueued huX huY huSize huBestX huBestY S (xsOc X ou :: wM X mThrown mWorld mImage mDraft mEarlier mRemembered mHasImage mIsLaid mOne mTwo mShare mX mY mD mEventX mEventY mEventD mEvents mCrossingOf mBundle mEventOf mDegree mFrom mTo mCrossings mEdges mMet mUpper mLower mTape mTaped mPoint mEnd mBegin mFaultAt mFive mTold mActs mFar mViews mHullX mHullY mEndX mEndY mHeightUp mHeightLow mMeets mMeetsOf [])) H → va_D (xsF X) (wK X kIsKept kIsStale hiLatest hiSize scBytes scTold scLength scFault scAt scNumber piSegmentsNow enKind enX enY enLower enFromX enFromY enToX enToY tiTouching tiLyingAlong tiMeetingPairs tiAlongPairs tiSize evX evY evLower evBundle evCrossingOf evEventOf evLeftEvent evRightEvent evSize evCrossings evSegmentsNow grDegree grEdges grFar grQueue grQueued huX huY huSize huBestX huBestY S (xsOc X ou :: wM X mThrown mWorld mImage mDraft mEarlier mRemembered mHasImage mIsLaid mOne mTwo mShare mX mY mD mEventX mEventY mEventD mEvents mCrossingOf mBundle mEventOf mDegree mFrom mTo mCrossings mEdges mMet mUpper mLower mTape mTaped mPoint mEnd mBegin mFaultAt mFive mTold mActs mFar mViews mHullX mHullY mEndX mEndY mHeightUp mHeightLow mMeets mMeetsOf [])) → va_S (xsF X) s.heap H locs → lv_has ls 8 [(4, .int i), (3, .ref (xsA X 131)), (2, .ref (xsA X 100)), (1, .ref (xsA X 0)), (0, .ref b)] → W p l e room_1 s m #[.ref b] below meth c H locs (C0 + 5) (D0 + 30) Q (F0 m 2175 ls [])) :
    W p l e room_1 s m #[.ref b] below meth c H locs C0 D0 Q (F0 m 330 ls []) := by
  have hx := C.1
  have hb := C.2.1
  obtain ⟨out, mo, ef, em, hor⟩ := hp hR 
  refine lv_aload_n hx hb dL_law_330 rfl (lv_at hl 3 rfl) ?_
  refine xs_calli hS (xs_runV (As := []) (rest := []) C (mX10_fault l  ef) w_500 w_501 w_502 w_105 w_503 hd_X10_fault (xsRmA hcs (by decide) (by decide)) hP hD hS lk_X10 rfl hl.1 rfl (Nat.le_of_ble_eq_true rfl) dL_law_331) (fun H locs hP hD hS => ?_)
  replace hP := xs_toM hP
  replace hD := xs_toMD hD
  refine lv_aload_n hx hb dL_law_334 rfl (lv_at hl 2 rfl) ?_
  refine xs_calli hS (xs_runV (As := []) (rest := [.int out]) C (mX11_fault l em) w_1525 w_1526 w_1527 w_115 w_1528 hd_X11_fault (xsRmA hcs (by decide) (by decide)) hP hD hS lk_X11 rfl hl.1 rfl (Nat.le_of_ble_eq_true rfl) dL_law_335) (fun H locs hP hD hS => ?_)
  replace hP := xs_toK hP
  replace hD := xs_toKD hD
  refine lv_icmp_eq (tgt := 2175) hx hb dL_law_338 (by decide) (fun _ => ?_) (fun q => absurd hor.1 q)
  exact W.widen (Nat.le_add_right _ _) (Nat.le_add_right _ _) (kk hor.2 hP hD hS hl)
set_option maxRecDepth 100000 in
set_option maxHeartbeats 8000000 in
theorem lc_add {Rl : xsRel} (l : Launch) (hst : l.stackTraces = false) (hp : pc_add Rl) {i v1 v2 v3 v4 v5 : Int32} (C : xsC p s m c cL_law #[.ref b] RL 8 X) (hX : va_X b L xs s s.heap) (hbz : b < xsZ X) (hbl : b < s.heap.size) (hi1 : vp_in (i + 1) L ∧ xs (i + 1).toNatClampNeg = v1) (hi2 : vp_in (i + 2) L ∧ xs (i + 2).toNatClampNeg = v2) (hi3 : vp_in (i + 3) L ∧ xs (i + 3).toNatClampNeg = v3) (hi4 : vp_in (i + 4) L ∧ xs (i + 4).toNatClampNeg = v4) (hi5 : vp_in (i + 5) L ∧ xs (i + 5).toNatClampNeg = v5) (hcs : xsRmC C0 D0) (hP : va_P (xsD X) vwCl (wK X kIsKept kIsStale hiLatest hiSize scBytes scTold scLength scFault scAt scNumber piSegmentsNow enKind enX enY enLower enFromX enFromY enToX enToY tiTouching tiLyingAlong tiMeetingPairs tiAlongPairs tiSize evX evY evLower evBundle evCrossingOf evEventOf evLeftEvent evRightEvent evSize evCrossings evSegmentsNow grDegree grEdges grFar grQueue grQueued huX huY huSize huBestX huBestY S (xsOc X ou :: wM X mThrown mWorld mImage mDraft mEarlier mRemembered mHasImage mIsLaid mOne mTwo mShare mX mY mD mEventX mEventY mEventD mEvents mCrossingOf mBundle mEventOf mDegree mFrom mTo mCrossings mEdges mMet mUpper mLower mTape mTaped mPoint mEnd mBegin mFaultAt mFive mTold mActs mFar mViews mHullX mHullY mEndX mEndY mHeightUp mHeightLow mMeets mMeetsOf [])) H) (hD : va_D (xsF X) (wK X kIsKept kIsStale hiLatest hiSize scBytes scTold scLength scFault scAt scNumber piSegmentsNow enKind enX enY enLower enFromX enFromY enToX enToY tiTouching tiLyingAlong tiMeetingPairs tiAlongPairs tiSize evX evY evLower evBundle evCrossingOf evEventOf evLeftEvent evRightEvent evSize evCrossings evSegmentsNow grDegree grEdges grFar grQueue grQueued huX huY huSize huBestX huBestY S (xsOc X ou :: wM X mThrown mWorld mImage mDraft mEarlier mRemembered mHasImage mIsLaid mOne mTwo mShare mX mY mD mEventX mEventY mEventD mEvents mCrossingOf mBundle mEventOf mDegree mFrom mTo mCrossings mEdges mMet mUpper mLower mTape mTaped mPoint mEnd mBegin mFaultAt mFive mTold mActs mFar mViews mHullX mHullY mEndX mEndY mHeightUp mHeightLow mMeets mMeetsOf []))) (hS : va_S (xsF X) s.heap H locs) (hl : lv_has ls 8 [(4, .int i), (3, .ref (xsA X 131)), (2, .ref (xsA X 100)), (1, .ref (xsA X 0)), (0, .ref b)]) (hR : Rl kIsKept kIsStale hiLatest hiSize scBytes scTold scLength scFault scAt scNumber piSegmentsNow enKind enX enY enLower enFromX enFromY enToX enToY tiTouching tiLyingAlong tiMeetingPairs tiAlongPairs tiSize evX evY evLower evBundle evCrossingOf evEventOf evLeftEvent evRightEvent evSize evCrossings evSegmentsNow grDegree grEdges grFar grQueue grQueued huX huY huSize huBestX huBestY S mThrown mWorld mImage mDraft mEarlier mRemembered mHasImage mIsLaid mOne mTwo mShare mX mY mD mEventX mEventY mEventD mEvents mCrossingOf mBundle mEventOf mDegree mFrom mTo mCrossings mEdges mMet mUpper mLower mTape mTaped mPoint mEnd mBegin mFaultAt mFive mTold mActs mFar mViews mHullX mHullY mEndX mEndY mHeightUp mHeightLow mMeets mMeetsOf)
    (kk : ∀ {kIsKept kIsStale hiLatest hiSize scLength scFault scAt scNumber piSegmentsNow enKind enFromX enFromY enToX enToY tiMeetingPairs tiAlongPairs tiSize evSize evCrossings evSegmentsNow grEdges grQueued huSize huBestX huBestY : Int32} {scBytes scTold tiTouching tiLyingAlong evBundle evCrossingOf evEventOf evLeftEvent evRightEvent grDegree grFar grQueue huX huY : Nat → Int32} {enX enY enLower : Int64} {evX evY evLower : Nat → Int64} {S : Nat → xsV} {mThrown mRemembered mHasImage mIsLaid mEvents mCrossings mEdges mTaped mPoint mEnd mBegin mFaultAt mActs : Int32} {mWorld mImage mDraft mEarlier mOne mTwo mShare mCrossingOf mBundle mEventOf mDegree mFrom mTo mMet mTape mFive mTold mFar mViews mHullX mHullY mEndX mEndY mMeets mMeetsOf : Nat → Int32} {mX mY mD mHeightUp mHeightLow : Int64} {mEventX mEventY mEventD mUpper mLower : Nat → Int64} {ou : Nat → Int64} {ls : Array Slot} {H : Heap} {locs : List Loc}, Rl kIsKept kIsStale hiLatest hiSize scBytes scTold scLength scFault scAt scNumber piSegmentsNow enKind enX enY enLower enFromX enFromY enToX enToY tiTouching tiLyingAlong tiMeetingPairs tiAlongPairs tiSize evX evY evLower evBundle evCrossingOf evEventOf evLeftEvent evRightEvent evSize evCrossings evSegmentsNow grDegree grEdges grFar grQueue grQueued huX huY huSize huBestX huBestY S mThrown mWorld mImage mDraft mEarlier mRemembered mHasImage mIsLaid mOne mTwo mShare mX mY mD mEventX mEventY mEventD mEvents mCrossingOf mBundle mEventOf mDegree mFrom mTo mCrossings mEdges mMet mUpper mLower mTape mTaped mPoint mEnd mBegin mFaultAt mFive mTold mActs mFar mViews mHullX mHullY mEndX mEndY mHeightUp mHeightLow mMeets mMeetsOf → va_P (xsD X) vwCl (wK X kIsKept kIsStale hiLatest hiSize scBytes scTold scLength scFault scAt scNumber piSegmentsNow enKind enX enY enLower enFromX enFromY enToX enToY tiTouching tiLyingAlong tiMeetingPairs tiAlongPairs tiSize evX evY evLower evBundle evCrossingOf evEventOf evLeftEvent evRightEvent evSize evCrossings evSegmentsNow grDegree grEdges grFar grQueue grQueued huX huY huSize huBestX huBestY S (xsOc X ou :: wM X mThrown mWorld mImage mDraft mEarlier mRemembered mHasImage mIsLaid mOne mTwo mShare mX mY mD mEventX mEventY mEventD mEvents mCrossingOf mBundle mEventOf mDegree mFrom mTo mCrossings mEdges mMet mUpper mLower mTape mTaped mPoint mEnd mBegin mFaultAt mFive mTold mActs mFar mViews mHullX mHullY mEndX mEndY mHeightUp mHeightLow mMeets mMeetsOf [])) H → va_D (xsF X) (wK X kIsKept kIsStale hiLatest hiSize scBytes scTold scLength scFault scAt scNumber piSegmentsNow enKind enX enY enLower enFromX enFromY enToX enToY tiTouching tiLyingAlong tiMeetingPairs tiAlongPairs tiSize evX evY evLower evBundle evCrossingOf evEventOf evLeftEvent evRightEvent evSize evCrossings evSegmentsNow grDegree grEdges grFar grQueue grQueued huX huY huSize huBestX huBestY S (xsOc X ou :: wM X mThrown mWorld mImage mDraft mEarlier mRemembered mHasImage mIsLaid mOne mTwo mShare mX mY mD mEventX mEventY mEventD mEvents mCrossingOf mBundle mEventOf mDegree mFrom mTo mCrossings mEdges mMet mUpper mLower mTape mTaped mPoint mEnd mBegin mFaultAt mFive mTold mActs mFar mViews mHullX mHullY mEndX mEndY mHeightUp mHeightLow mMeets mMeetsOf [])) → va_S (xsF X) s.heap H locs → lv_has ls 8 [(4, .int i), (3, .ref (xsA X 131)), (2, .ref (xsA X 100)), (1, .ref (xsA X 0)), (0, .ref b)] → W p l e room_1 s m #[.ref b] below meth c H locs (C0 + 5) (D0 + 30) Q (F0 m 2175 ls [])) :
    W p l e room_1 s m #[.ref b] below meth c H locs C0 D0 Q (F0 m 343 ls []) := by
  have hx := C.1
  have hb := C.2.1
  obtain ⟨out, mo, ef, em, hor⟩ := hp hR v1 v2 v3 v4 v5
  rcases hor with ⟨tt, eo, ea, et, hR⟩ | ⟨n, tt, eo, en, et, hR⟩
  · subst eo
    refine lv_aload_n hx hb dL_law_343 rfl (lv_at hl 3 rfl) ?_
    refine lv_aload_n hx hb dL_law_344 rfl (lv_at hl 4 rfl) ?_
    refine lv_iload hx hb dL_law_345 (lv_at hl 0 rfl) ?_
    refine lv_iconst (v := (1 : Int32)) hx hb dL_law_347 (by decide) ?_
    refine lv_iadd hx hb dL_law_348 ?_
    refine xs_lld C hX hbz hbl hS hi1 dL_law_349 ?_
    refine lv_aload_n hx hb dL_law_350 rfl (lv_at hl 4 rfl) ?_
    refine lv_iload hx hb dL_law_351 (lv_at hl 0 rfl) ?_
    refine lv_iconst (v := (2 : Int32)) hx hb dL_law_353 (by decide) ?_
    refine lv_iadd hx hb dL_law_354 ?_
    refine xs_lld C hX hbz hbl hS hi2 dL_law_355 ?_
    refine lv_aload_n hx hb dL_law_356 rfl (lv_at hl 4 rfl) ?_
    refine lv_iload hx hb dL_law_357 (lv_at hl 0 rfl) ?_
    refine lv_iconst (v := (3 : Int32)) hx hb dL_law_359 (by decide) ?_
    refine lv_iadd hx hb dL_law_360 ?_
    refine xs_lld C hX hbz hbl hS hi3 dL_law_361 ?_
    refine lv_aload_n hx hb dL_law_362 rfl (lv_at hl 4 rfl) ?_
    refine lv_iload hx hb dL_law_363 (lv_at hl 0 rfl) ?_
    refine lv_iconst (v := (4 : Int32)) hx hb dL_law_365 (by decide) ?_
    refine lv_iadd hx hb dL_law_366 ?_
    refine xs_lld C hX hbz hbl hS hi4 dL_law_367 ?_
    refine lv_aload_n hx hb dL_law_368 rfl (lv_at hl 4 rfl) ?_
    refine lv_iload hx hb dL_law_369 (lv_at hl 0 rfl) ?_
    refine lv_iconst (v := (5 : Int32)) hx hb dL_law_371 (by decide) ?_
    refine lv_iadd hx hb dL_law_372 ?_
    refine xs_lld C hX hbz hbl hS hi5 dL_law_373 ?_
    refine lv_aload_n hx hb dL_law_374 rfl (lv_at hl 1 rfl) ?_
    refine xs_lcalli hS (xs_lrunS (As := [.ref (xsA X 0), .int v1, .int v2, .int v3, .int v4, .int v5, .ref (xsA X 131)]) (rest := []) C (mL_add l hst (xs_eta (S 0)) (hist := fun i => S (4 + i)) (fun _ => rfl) ef (fun n tt h => by cases h)) w_975 w_976 w_104 w_977 hd_L_add (xsRmL hcs (by decide) (by decide) (by decide) (by decide)) hP hD hS hl.1 rfl (Nat.le_of_ble_eq_true rfl) dL_law_375) (fun r u H locs hq hP hD hS => ?_)
    rcases hq with ⟨tx, e1, e2, e3⟩ | ⟨n, tx, e1, e2, e3⟩
    · cases e1
      subst e3
      subst e2
      refine lv_istore (lv' := [(5, .int 0), (4, .int i), (3, .ref (xsA X 131)), (2, .ref (xsA X 100)), (1, .ref (xsA X 0)), (0, .ref b)]) hx hb dL_law_378 hl (by decide) rfl (fun ls hl => ?_)
      refine lv_aload_n hx hb dL_law_380 rfl (lv_at hl 3 rfl) ?_
      refine lv_aload_n hx hb dL_law_381 rfl (lv_at hl 5 rfl) ?_
      refine lv_iload hx hb dL_law_382 (lv_at hl 1 rfl) ?_
      refine lv_iconst (v := (1 : Int32)) hx hb dL_law_384 (by decide) ?_
      refine lv_iadd hx hb dL_law_385 ?_
      refine xs_lld C hX hbz hbl hS hi1 dL_law_386 ?_
      refine lv_aload_n hx hb dL_law_387 rfl (lv_at hl 5 rfl) ?_
      refine lv_iload hx hb dL_law_388 (lv_at hl 1 rfl) ?_
      refine lv_iconst (v := (2 : Int32)) hx hb dL_law_390 (by decide) ?_
      refine lv_iadd hx hb dL_law_391 ?_
      refine xs_lld C hX hbz hbl hS hi2 dL_law_392 ?_
      refine lv_aload_n hx hb dL_law_393 rfl (lv_at hl 5 rfl) ?_
      refine lv_iload hx hb dL_law_394 (lv_at hl 1 rfl) ?_
      refine lv_iconst (v := (3 : Int32)) hx hb dL_law_396 (by decide) ?_
      refine lv_iadd hx hb dL_law_397 ?_
      refine xs_lld C hX hbz hbl hS hi3 dL_law_398 ?_
      refine lv_aload_n hx hb dL_law_399 rfl (lv_at hl 5 rfl) ?_
      refine lv_iload hx hb dL_law_400 (lv_at hl 1 rfl) ?_
      refine lv_iconst (v := (4 : Int32)) hx hb dL_law_402 (by decide) ?_
      refine lv_iadd hx hb dL_law_403 ?_
      refine xs_lld C hX hbz hbl hS hi4 dL_law_404 ?_
      refine lv_aload_n hx hb dL_law_405 rfl (lv_at hl 5 rfl) ?_
      refine lv_iload hx hb dL_law_406 (lv_at hl 1 rfl) ?_
      refine lv_iconst (v := (5 : Int32)) hx hb dL_law_408 (by decide) ?_
      refine lv_iadd hx hb dL_law_409 ?_
      refine xs_lld C hX hbz hbl hS hi5 dL_law_410 ?_
      replace hP := xs_toM hP
      replace hD := xs_toMD hD
      refine xs_calli hS (xs_runV (As := [.int v1, .int v2, .int v3, .int v4, .int v5]) (rest := []) C (mX11_add l em) w_1623 w_1624 w_1625 w_115 w_1626 hd_X11_add (xsRmB hcs (by decide) (by decide) (by decide) (by decide)) hP hD hS lk_X11 rfl hl.1 rfl (Nat.le_of_ble_eq_true rfl) dL_law_411) (fun H locs hP hD hS => ?_)
      refine lv_istore (lv' := [(6, .int mo.1), (5, .int 0), (4, .int i), (3, .ref (xsA X 131)), (2, .ref (xsA X 100)), (1, .ref (xsA X 0)), (0, .ref b)]) hx hb dL_law_414 hl (by decide) rfl (fun ls hl => ?_)
      refine lv_aload_n hx hb dL_law_416 rfl (lv_at hl 4 rfl) ?_
      refine xs_calli hS (xs_runV (As := []) (rest := []) C (mX11_thrown l rfl) w_1343 w_1344 w_1345 w_115 w_1346 hd_X11_thrown (xsRmB hcs (by decide) (by decide) (by decide) (by decide)) hP hD hS lk_X11 rfl hl.1 rfl (Nat.le_of_ble_eq_true rfl) dL_law_417) (fun H locs hP hD hS => ?_)
      replace hP := xs_toK hP
      replace hD := xs_toKD hD
      refine lv_iload hx hb dL_law_420 (lv_at hl 1 rfl) ?_
      refine lv_icmp_eq (tgt := 427) hx hb dL_law_422 (by decide) (fun _ => ?_) (fun q => absurd et q)
      refine lv_iload hx hb dL_law_427 (lv_at hl 1 rfl) ?_
      refine lv_if_ne (tgt := 444) hx hb dL_law_429 (by decide) (fun q => absurd rfl q) (fun _ => ?_)
      refine lv_aload_n hx hb dL_law_432 rfl (lv_at hl 3 rfl) ?_
      refine lv_iconst (v := (0 : Int32)) hx hb dL_law_433 (by decide) ?_
      refine xs_lald C hP (q0 := 99) rfl (vp_in_nI (n := 0) (by decide) (by decide)) dL_law_434 ?_
      refine lv_iload hx hb dL_law_435 (lv_at hl 0 rfl) ?_
      refine lv_i2l hx hb dL_law_437 rfl ?_
      refine xs_lcmp_eq (tgt := 444) C dL_law_438 dL_law_439 (by decide) (fun _ => ?_) (fun q => absurd (xs_ou0 (congrArg Int32.toInt64 ea)) q)
      refine lv_goto (tgt := 2175) hx hb dL_law_444 (by decide) ?_
      exact W.widen (Nat.add_le_add_left (by decide) _) (Nat.add_le_add_left (by decide) _) (kk hR hP hD hS (lv_sub hl [2, 3, 4, 5, 6] rfl))
    · cases e1
  · subst eo
    refine lv_aload_n hx hb dL_law_343 rfl (lv_at hl 3 rfl) ?_
    refine lv_aload_n hx hb dL_law_344 rfl (lv_at hl 4 rfl) ?_
    refine lv_iload hx hb dL_law_345 (lv_at hl 0 rfl) ?_
    refine lv_iconst (v := (1 : Int32)) hx hb dL_law_347 (by decide) ?_
    refine lv_iadd hx hb dL_law_348 ?_
    refine xs_lld C hX hbz hbl hS hi1 dL_law_349 ?_
    refine lv_aload_n hx hb dL_law_350 rfl (lv_at hl 4 rfl) ?_
    refine lv_iload hx hb dL_law_351 (lv_at hl 0 rfl) ?_
    refine lv_iconst (v := (2 : Int32)) hx hb dL_law_353 (by decide) ?_
    refine lv_iadd hx hb dL_law_354 ?_
    refine xs_lld C hX hbz hbl hS hi2 dL_law_355 ?_
    refine lv_aload_n hx hb dL_law_356 rfl (lv_at hl 4 rfl) ?_
    refine lv_iload hx hb dL_law_357 (lv_at hl 0 rfl) ?_
    refine lv_iconst (v := (3 : Int32)) hx hb dL_law_359 (by decide) ?_
    refine lv_iadd hx hb dL_law_360 ?_
    refine xs_lld C hX hbz hbl hS hi3 dL_law_361 ?_
    refine lv_aload_n hx hb dL_law_362 rfl (lv_at hl 4 rfl) ?_
    refine lv_iload hx hb dL_law_363 (lv_at hl 0 rfl) ?_
    refine lv_iconst (v := (4 : Int32)) hx hb dL_law_365 (by decide) ?_
    refine lv_iadd hx hb dL_law_366 ?_
    refine xs_lld C hX hbz hbl hS hi4 dL_law_367 ?_
    refine lv_aload_n hx hb dL_law_368 rfl (lv_at hl 4 rfl) ?_
    refine lv_iload hx hb dL_law_369 (lv_at hl 0 rfl) ?_
    refine lv_iconst (v := (5 : Int32)) hx hb dL_law_371 (by decide) ?_
    refine lv_iadd hx hb dL_law_372 ?_
    refine xs_lld C hX hbz hbl hS hi5 dL_law_373 ?_
    refine lv_aload_n hx hb dL_law_374 rfl (lv_at hl 1 rfl) ?_
    refine xs_lcalli hS (xs_lrunS (As := [.ref (xsA X 0), .int v1, .int v2, .int v3, .int v4, .int v5, .ref (xsA X 131)]) (rest := []) C (mL_add l hst (xs_eta (S 0)) (hist := fun i => S (4 + i)) (fun _ => rfl) ef (fun n2 t2 h => by cases h; exact en)) w_975 w_976 w_104 w_977 hd_L_add (xsRmL hcs (by decide) (by decide) (by decide) (by decide)) hP hD hS hl.1 rfl (Nat.le_of_ble_eq_true rfl) dL_law_375) (fun r u H locs hq hP hD hS => ?_)
    rcases hq with ⟨tx, e1, e2, e3⟩ | ⟨n2, tx, e1, e2, e3⟩
    · cases e1
    · cases e1
      subst e3
      have ekn : ¬ r = 0 := by rw [e2]; rcases en with rfl | rfl <;> decide
      replace et := et.trans e2.symm
      refine lv_istore (lv' := [(5, .int r), (4, .int i), (3, .ref (xsA X 131)), (2, .ref (xsA X 100)), (1, .ref (xsA X 0)), (0, .ref b)]) hx hb dL_law_378 hl (by decide) rfl (fun ls hl => ?_)
      refine lv_aload_n hx hb dL_law_380 rfl (lv_at hl 3 rfl) ?_
      refine lv_aload_n hx hb dL_law_381 rfl (lv_at hl 5 rfl) ?_
      refine lv_iload hx hb dL_law_382 (lv_at hl 1 rfl) ?_
      refine lv_iconst (v := (1 : Int32)) hx hb dL_law_384 (by decide) ?_
      refine lv_iadd hx hb dL_law_385 ?_
      refine xs_lld C hX hbz hbl hS hi1 dL_law_386 ?_
      refine lv_aload_n hx hb dL_law_387 rfl (lv_at hl 5 rfl) ?_
      refine lv_iload hx hb dL_law_388 (lv_at hl 1 rfl) ?_
      refine lv_iconst (v := (2 : Int32)) hx hb dL_law_390 (by decide) ?_
      refine lv_iadd hx hb dL_law_391 ?_
      refine xs_lld C hX hbz hbl hS hi2 dL_law_392 ?_
      refine lv_aload_n hx hb dL_law_393 rfl (lv_at hl 5 rfl) ?_
      refine lv_iload hx hb dL_law_394 (lv_at hl 1 rfl) ?_
      refine lv_iconst (v := (3 : Int32)) hx hb dL_law_396 (by decide) ?_
      refine lv_iadd hx hb dL_law_397 ?_
      refine xs_lld C hX hbz hbl hS hi3 dL_law_398 ?_
      refine lv_aload_n hx hb dL_law_399 rfl (lv_at hl 5 rfl) ?_
      refine lv_iload hx hb dL_law_400 (lv_at hl 1 rfl) ?_
      refine lv_iconst (v := (4 : Int32)) hx hb dL_law_402 (by decide) ?_
      refine lv_iadd hx hb dL_law_403 ?_
      refine xs_lld C hX hbz hbl hS hi4 dL_law_404 ?_
      refine lv_aload_n hx hb dL_law_405 rfl (lv_at hl 5 rfl) ?_
      refine lv_iload hx hb dL_law_406 (lv_at hl 1 rfl) ?_
      refine lv_iconst (v := (5 : Int32)) hx hb dL_law_408 (by decide) ?_
      refine lv_iadd hx hb dL_law_409 ?_
      refine xs_lld C hX hbz hbl hS hi5 dL_law_410 ?_
      replace hP := xs_toM hP
      replace hD := xs_toMD hD
      refine xs_calli hS (xs_runV (As := [.int v1, .int v2, .int v3, .int v4, .int v5]) (rest := []) C (mX11_add l em) w_1623 w_1624 w_1625 w_115 w_1626 hd_X11_add (xsRmB hcs (by decide) (by decide) (by decide) (by decide)) hP hD hS lk_X11 rfl hl.1 rfl (Nat.le_of_ble_eq_true rfl) dL_law_411) (fun H locs hP hD hS => ?_)
      refine lv_istore (lv' := [(6, .int mo.1), (5, .int r), (4, .int i), (3, .ref (xsA X 131)), (2, .ref (xsA X 100)), (1, .ref (xsA X 0)), (0, .ref b)]) hx hb dL_law_414 hl (by decide) rfl (fun ls hl => ?_)
      refine lv_aload_n hx hb dL_law_416 rfl (lv_at hl 4 rfl) ?_
      refine xs_calli hS (xs_runV (As := []) (rest := []) C (mX11_thrown l rfl) w_1343 w_1344 w_1345 w_115 w_1346 hd_X11_thrown (xsRmB hcs (by decide) (by decide) (by decide) (by decide)) hP hD hS lk_X11 rfl hl.1 rfl (Nat.le_of_ble_eq_true rfl) dL_law_417) (fun H locs hP hD hS => ?_)
      replace hP := xs_toK hP
      replace hD := xs_toKD hD
      refine lv_iload hx hb dL_law_420 (lv_at hl 1 rfl) ?_
      refine lv_icmp_eq (tgt := 427) hx hb dL_law_422 (by decide) (fun _ => ?_) (fun q => absurd et q)
      refine lv_iload hx hb dL_law_427 (lv_at hl 1 rfl) ?_
      refine lv_if_ne (tgt := 444) hx hb dL_law_429 (by decide) (fun _ => ?_) (fun q => absurd q (ekn))
      refine lv_goto (tgt := 2175) hx hb dL_law_444 (by decide) ?_
      exact W.widen (Nat.add_le_add_left (by decide) _) (Nat.add_le_add_left (by decide) _) (kk hR hP hD hS (lv_sub hl [2, 3, 4, 5, 6] rfl))
set_option maxRecDepth 100000 in
set_option maxHeartbeats 8000000 in
theorem lc_cut {Rl : xsRel} (l : Launch) (hst : l.stackTraces = false) (hp : pc_cut Rl) {i v1 v2 v3 v4 v5 : Int32} (C : xsC p s m c cL_law #[.ref b] RL 8 X) (hX : va_X b L xs s s.heap) (hbz : b < xsZ X) (hbl : b < s.heap.size) (hi1 : vp_in (i + 1) L ∧ xs (i + 1).toNatClampNeg = v1) (hi2 : vp_in (i + 2) L ∧ xs (i + 2).toNatClampNeg = v2) (hi3 : vp_in (i + 3) L ∧ xs (i + 3).toNatClampNeg = v3) (hi4 : vp_in (i + 4) L ∧ xs (i + 4).toNatClampNeg = v4) (hi5 : vp_in (i + 5) L ∧ xs (i + 5).toNatClampNeg = v5) (hcs : xsRmC C0 D0) (hP : va_P (xsD X) vwCl (wK X kIsKept kIsStale hiLatest hiSize scBytes scTold scLength scFault scAt scNumber piSegmentsNow enKind enX enY enLower enFromX enFromY enToX enToY tiTouching tiLyingAlong tiMeetingPairs tiAlongPairs tiSize evX evY evLower evBundle evCrossingOf evEventOf evLeftEvent evRightEvent evSize evCrossings evSegmentsNow grDegree grEdges grFar grQueue grQueued huX huY huSize huBestX huBestY S (xsOc X ou :: wM X mThrown mWorld mImage mDraft mEarlier mRemembered mHasImage mIsLaid mOne mTwo mShare mX mY mD mEventX mEventY mEventD mEvents mCrossingOf mBundle mEventOf mDegree mFrom mTo mCrossings mEdges mMet mUpper mLower mTape mTaped mPoint mEnd mBegin mFaultAt mFive mTold mActs mFar mViews mHullX mHullY mEndX mEndY mHeightUp mHeightLow mMeets mMeetsOf [])) H) (hD : va_D (xsF X) (wK X kIsKept kIsStale hiLatest hiSize scBytes scTold scLength scFault scAt scNumber piSegmentsNow enKind enX enY enLower enFromX enFromY enToX enToY tiTouching tiLyingAlong tiMeetingPairs tiAlongPairs tiSize evX evY evLower evBundle evCrossingOf evEventOf evLeftEvent evRightEvent evSize evCrossings evSegmentsNow grDegree grEdges grFar grQueue grQueued huX huY huSize huBestX huBestY S (xsOc X ou :: wM X mThrown mWorld mImage mDraft mEarlier mRemembered mHasImage mIsLaid mOne mTwo mShare mX mY mD mEventX mEventY mEventD mEvents mCrossingOf mBundle mEventOf mDegree mFrom mTo mCrossings mEdges mMet mUpper mLower mTape mTaped mPoint mEnd mBegin mFaultAt mFive mTold mActs mFar mViews mHullX mHullY mEndX mEndY mHeightUp mHeightLow mMeets mMeetsOf []))) (hS : va_S (xsF X) s.heap H locs) (hl : lv_has ls 8 [(4, .int i), (3, .ref (xsA X 131)), (2, .ref (xsA X 100)), (1, .ref (xsA X 0)), (0, .ref b)]) (hR : Rl kIsKept kIsStale hiLatest hiSize scBytes scTold scLength scFault scAt scNumber piSegmentsNow enKind enX enY enLower enFromX enFromY enToX enToY tiTouching tiLyingAlong tiMeetingPairs tiAlongPairs tiSize evX evY evLower evBundle evCrossingOf evEventOf evLeftEvent evRightEvent evSize evCrossings evSegmentsNow grDegree grEdges grFar grQueue grQueued huX huY huSize huBestX huBestY S mThrown mWorld mImage mDraft mEarlier mRemembered mHasImage mIsLaid mOne mTwo mShare mX mY mD mEventX mEventY mEventD mEvents mCrossingOf mBundle mEventOf mDegree mFrom mTo mCrossings mEdges mMet mUpper mLower mTape mTaped mPoint mEnd mBegin mFaultAt mFive mTold mActs mFar mViews mHullX mHullY mEndX mEndY mHeightUp mHeightLow mMeets mMeetsOf)
    (kk : ∀ {kIsKept kIsStale hiLatest hiSize scLength scFault scAt scNumber piSegmentsNow enKind enFromX enFromY enToX enToY tiMeetingPairs tiAlongPairs tiSize evSize evCrossings evSegmentsNow grEdges grQueued huSize huBestX huBestY : Int32} {scBytes scTold tiTouching tiLyingAlong evBundle evCrossingOf evEventOf evLeftEvent evRightEvent grDegree grFar grQueue huX huY : Nat → Int32} {enX enY enLower : Int64} {evX evY evLower : Nat → Int64} {S : Nat → xsV} {mThrown mRemembered mHasImage mIsLaid mEvents mCrossings mEdges mTaped mPoint mEnd mBegin mFaultAt mActs : Int32} {mWorld mImage mDraft mEarlier mOne mTwo mShare mCrossingOf mBundle mEventOf mDegree mFrom mTo mMet mTape mFive mTold mFar mViews mHullX mHullY mEndX mEndY mMeets mMeetsOf : Nat → Int32} {mX mY mD mHeightUp mHeightLow : Int64} {mEventX mEventY mEventD mUpper mLower : Nat → Int64} {ou : Nat → Int64} {ls : Array Slot} {H : Heap} {locs : List Loc}, Rl kIsKept kIsStale hiLatest hiSize scBytes scTold scLength scFault scAt scNumber piSegmentsNow enKind enX enY enLower enFromX enFromY enToX enToY tiTouching tiLyingAlong tiMeetingPairs tiAlongPairs tiSize evX evY evLower evBundle evCrossingOf evEventOf evLeftEvent evRightEvent evSize evCrossings evSegmentsNow grDegree grEdges grFar grQueue grQueued huX huY huSize huBestX huBestY S mThrown mWorld mImage mDraft mEarlier mRemembered mHasImage mIsLaid mOne mTwo mShare mX mY mD mEventX mEventY mEventD mEvents mCrossingOf mBundle mEventOf mDegree mFrom mTo mCrossings mEdges mMet mUpper mLower mTape mTaped mPoint mEnd mBegin mFaultAt mFive mTold mActs mFar mViews mHullX mHullY mEndX mEndY mHeightUp mHeightLow mMeets mMeetsOf → va_P (xsD X) vwCl (wK X kIsKept kIsStale hiLatest hiSize scBytes scTold scLength scFault scAt scNumber piSegmentsNow enKind enX enY enLower enFromX enFromY enToX enToY tiTouching tiLyingAlong tiMeetingPairs tiAlongPairs tiSize evX evY evLower evBundle evCrossingOf evEventOf evLeftEvent evRightEvent evSize evCrossings evSegmentsNow grDegree grEdges grFar grQueue grQueued huX huY huSize huBestX huBestY S (xsOc X ou :: wM X mThrown mWorld mImage mDraft mEarlier mRemembered mHasImage mIsLaid mOne mTwo mShare mX mY mD mEventX mEventY mEventD mEvents mCrossingOf mBundle mEventOf mDegree mFrom mTo mCrossings mEdges mMet mUpper mLower mTape mTaped mPoint mEnd mBegin mFaultAt mFive mTold mActs mFar mViews mHullX mHullY mEndX mEndY mHeightUp mHeightLow mMeets mMeetsOf [])) H → va_D (xsF X) (wK X kIsKept kIsStale hiLatest hiSize scBytes scTold scLength scFault scAt scNumber piSegmentsNow enKind enX enY enLower enFromX enFromY enToX enToY tiTouching tiLyingAlong tiMeetingPairs tiAlongPairs tiSize evX evY evLower evBundle evCrossingOf evEventOf evLeftEvent evRightEvent evSize evCrossings evSegmentsNow grDegree grEdges grFar grQueue grQueued huX huY huSize huBestX huBestY S (xsOc X ou :: wM X mThrown mWorld mImage mDraft mEarlier mRemembered mHasImage mIsLaid mOne mTwo mShare mX mY mD mEventX mEventY mEventD mEvents mCrossingOf mBundle mEventOf mDegree mFrom mTo mCrossings mEdges mMet mUpper mLower mTape mTaped mPoint mEnd mBegin mFaultAt mFive mTold mActs mFar mViews mHullX mHullY mEndX mEndY mHeightUp mHeightLow mMeets mMeetsOf [])) → va_S (xsF X) s.heap H locs → lv_has ls 8 [(4, .int i), (3, .ref (xsA X 131)), (2, .ref (xsA X 100)), (1, .ref (xsA X 0)), (0, .ref b)] → W p l e room_1 s m #[.ref b] below meth c H locs (C0 + 5) (D0 + 30) Q (F0 m 2175 ls [])) :
    W p l e room_1 s m #[.ref b] below meth c H locs C0 D0 Q (F0 m 447 ls []) := by
  have hx := C.1
  have hb := C.2.1
  obtain ⟨out, mo, ef, em, hor⟩ := hp hR v1
  rcases hor with ⟨tt, eo, ea, et, hR⟩ | ⟨n, tt, eo, en, et, hR⟩
  · subst eo
    refine lv_aload_n hx hb dL_law_447 rfl (lv_at hl 3 rfl) ?_
    refine lv_aload_n hx hb dL_law_448 rfl (lv_at hl 4 rfl) ?_
    refine lv_iload hx hb dL_law_449 (lv_at hl 0 rfl) ?_
    refine lv_iconst (v := (1 : Int32)) hx hb dL_law_451 (by decide) ?_
    refine lv_iadd hx hb dL_law_452 ?_
    refine xs_lld C hX hbz hbl hS hi1 dL_law_453 ?_
    refine lv_aload_n hx hb dL_law_454 rfl (lv_at hl 1 rfl) ?_
    refine xs_lcalli hS (xs_lrunS (As := [.ref (xsA X 0), .int v1, .ref (xsA X 131)]) (rest := []) C (mL_cut l hst (xs_eta (S 0)) (hist := fun i => S (4 + i)) (fun _ => rfl) ef (fun n tt h => by cases h)) w_1010 w_1011 w_104 w_1012 hd_L_cut (xsRmL hcs (by decide) (by decide) (by decide) (by decide)) hP hD hS hl.1 rfl (Nat.le_of_ble_eq_true rfl) dL_law_455) (fun r u H locs hq hP hD hS => ?_)
    rcases hq with ⟨tx, e1, e2, e3⟩ | ⟨n, tx, e1, e2, e3⟩
    · cases e1
      subst e3
      subst e2
      refine lv_istore (lv' := [(5, .int 0), (4, .int i), (3, .ref (xsA X 131)), (2, .ref (xsA X 100)), (1, .ref (xsA X 0)), (0, .ref b)]) hx hb dL_law_458 hl (by decide) rfl (fun ls hl => ?_)
      refine lv_aload_n hx hb dL_law_460 rfl (lv_at hl 3 rfl) ?_
      refine lv_aload_n hx hb dL_law_461 rfl (lv_at hl 5 rfl) ?_
      refine lv_iload hx hb dL_law_462 (lv_at hl 1 rfl) ?_
      refine lv_iconst (v := (1 : Int32)) hx hb dL_law_464 (by decide) ?_
      refine lv_iadd hx hb dL_law_465 ?_
      refine xs_lld C hX hbz hbl hS hi1 dL_law_466 ?_
      replace hP := xs_toM hP
      replace hD := xs_toMD hD
      refine xs_calli hS (xs_runV (As := [.int v1]) (rest := []) C (mX11_cut l em) w_1634 w_1635 w_1636 w_115 w_1637 hd_X11_cut (xsRmB hcs (by decide) (by decide) (by decide) (by decide)) hP hD hS lk_X11 rfl hl.1 rfl (Nat.le_of_ble_eq_true rfl) dL_law_467) (fun H locs hP hD hS => ?_)
      refine lv_istore (lv' := [(6, .int mo.1), (5, .int 0), (4, .int i), (3, .ref (xsA X 131)), (2, .ref (xsA X 100)), (1, .ref (xsA X 0)), (0, .ref b)]) hx hb dL_law_470 hl (by decide) rfl (fun ls hl => ?_)
      refine lv_aload_n hx hb dL_law_472 rfl (lv_at hl 4 rfl) ?_
      refine xs_calli hS (xs_runV (As := []) (rest := []) C (mX11_thrown l rfl) w_1343 w_1344 w_1345 w_115 w_1346 hd_X11_thrown (xsRmB hcs (by decide) (by decide) (by decide) (by decide)) hP hD hS lk_X11 rfl hl.1 rfl (Nat.le_of_ble_eq_true rfl) dL_law_473) (fun H locs hP hD hS => ?_)
      replace hP := xs_toK hP
      replace hD := xs_toKD hD
      refine lv_iload hx hb dL_law_476 (lv_at hl 1 rfl) ?_
      refine lv_icmp_eq (tgt := 483) hx hb dL_law_478 (by decide) (fun _ => ?_) (fun q => absurd et q)
      refine lv_iload hx hb dL_law_483 (lv_at hl 1 rfl) ?_
      refine lv_if_ne (tgt := 500) hx hb dL_law_485 (by decide) (fun q => absurd rfl q) (fun _ => ?_)
      refine lv_aload_n hx hb dL_law_488 rfl (lv_at hl 3 rfl) ?_
      refine lv_iconst (v := (0 : Int32)) hx hb dL_law_489 (by decide) ?_
      refine xs_lald C hP (q0 := 99) rfl (vp_in_nI (n := 0) (by decide) (by decide)) dL_law_490 ?_
      refine lv_iload hx hb dL_law_491 (lv_at hl 0 rfl) ?_
      refine lv_i2l hx hb dL_law_493 rfl ?_
      refine xs_lcmp_eq (tgt := 500) C dL_law_494 dL_law_495 (by decide) (fun _ => ?_) (fun q => absurd (xs_ou0 (congrArg Int32.toInt64 ea)) q)
      refine lv_goto (tgt := 2175) hx hb dL_law_500 (by decide) ?_
      exact W.widen (Nat.add_le_add_left (by decide) _) (Nat.add_le_add_left (by decide) _) (kk hR hP hD hS (lv_sub hl [2, 3, 4, 5, 6] rfl))
    · cases e1
  · subst eo
    refine lv_aload_n hx hb dL_law_447 rfl (lv_at hl 3 rfl) ?_
    refine lv_aload_n hx hb dL_law_448 rfl (lv_at hl 4 rfl) ?_
    refine lv_iload hx hb dL_law_449 (lv_at hl 0 rfl) ?_
    refine lv_iconst (v := (1 : Int32)) hx hb dL_law_451 (by decide) ?_
    refine lv_iadd hx hb dL_law_452 ?_
    refine xs_lld C hX hbz hbl hS hi1 dL_law_453 ?_
    refine lv_aload_n hx hb dL_law_454 rfl (lv_at hl 1 rfl) ?_
    refine xs_lcalli hS (xs_lrunS (As := [.ref (xsA X 0), .int v1, .ref (xsA X 131)]) (rest := []) C (mL_cut l hst (xs_eta (S 0)) (hist := fun i => S (4 + i)) (fun _ => rfl) ef (fun n2 t2 h => by cases h; exact en)) w_1010 w_1011 w_104 w_1012 hd_L_cut (xsRmL hcs (by decide) (by decide) (by decide) (by decide)) hP hD hS hl.1 rfl (Nat.le_of_ble_eq_true rfl) dL_law_455) (fun r u H locs hq hP hD hS => ?_)
    rcases hq with ⟨tx, e1, e2, e3⟩ | ⟨n2, tx, e1, e2, e3⟩
    · cases e1
    · cases e1
      subst e3
      have ekn : ¬ r = 0 := by rw [e2]; rw [en]; decide
      replace et := et.trans e2.symm
      refine lv_istore (lv' := [(5, .int r), (4, .int i), (3, .ref (xsA X 131)), (2, .ref (xsA X 100)), (1, .ref (xsA X 0)), (0, .ref b)]) hx hb dL_law_458 hl (by decide) rfl (fun ls hl => ?_)
      refine lv_aload_n hx hb dL_law_460 rfl (lv_at hl 3 rfl) ?_
      refine lv_aload_n hx hb dL_law_461 rfl (lv_at hl 5 rfl) ?_
      refine lv_iload hx hb dL_law_462 (lv_at hl 1 rfl) ?_
      refine lv_iconst (v := (1 : Int32)) hx hb dL_law_464 (by decide) ?_
      refine lv_iadd hx hb dL_law_465 ?_
      refine xs_lld C hX hbz hbl hS hi1 dL_law_466 ?_
      replace hP := xs_toM hP
      replace hD := xs_toMD hD
      refine xs_calli hS (xs_runV (As := [.int v1]) (rest := []) C (mX11_cut l em) w_1634 w_1635 w_1636 w_115 w_1637 hd_X11_cut (xsRmB hcs (by decide) (by decide) (by decide) (by decide)) hP hD hS lk_X11 rfl hl.1 rfl (Nat.le_of_ble_eq_true rfl) dL_law_467) (fun H locs hP hD hS => ?_)
      refine lv_istore (lv' := [(6, .int mo.1), (5, .int r), (4, .int i), (3, .ref (xsA X 131)), (2, .ref (xsA X 100)), (1, .ref (xsA X 0)), (0, .ref b)]) hx hb dL_law_470 hl (by decide) rfl (fun ls hl => ?_)
      refine lv_aload_n hx hb dL_law_472 rfl (lv_at hl 4 rfl) ?_
      refine xs_calli hS (xs_runV (As := []) (rest := []) C (mX11_thrown l rfl) w_1343 w_1344 w_1345 w_115 w_1346 hd_X11_thrown (xsRmB hcs (by decide) (by decide) (by decide) (by decide)) hP hD hS lk_X11 rfl hl.1 rfl (Nat.le_of_ble_eq_true rfl) dL_law_473) (fun H locs hP hD hS => ?_)
      replace hP := xs_toK hP
      replace hD := xs_toKD hD
      refine lv_iload hx hb dL_law_476 (lv_at hl 1 rfl) ?_
      refine lv_icmp_eq (tgt := 483) hx hb dL_law_478 (by decide) (fun _ => ?_) (fun q => absurd et q)
      refine lv_iload hx hb dL_law_483 (lv_at hl 1 rfl) ?_
      refine lv_if_ne (tgt := 500) hx hb dL_law_485 (by decide) (fun _ => ?_) (fun q => absurd q (ekn))
      refine lv_goto (tgt := 2175) hx hb dL_law_500 (by decide) ?_
      exact W.widen (Nat.add_le_add_left (by decide) _) (Nat.add_le_add_left (by decide) _) (kk hR hP hD hS (lv_sub hl [2, 3, 4, 5, 6] rfl))
set_option maxRecDepth 100000 in
set_option maxHeartbeats 8000000 in
theorem lc_move {Rl : xsRel} (l : Launch) (hst : l.stackTraces = false) (hp : pc_move Rl) {i v1 v2 v3 v4 v5 : Int32} (C : xsC p s m c cL_law #[.ref b] RL 8 X) (hX : va_X b L xs s s.heap) (hbz : b < xsZ X) (hbl : b < s.heap.size) (hi1 : vp_in (i + 1) L ∧ xs (i + 1).toNatClampNeg = v1) (hi2 : vp_in (i + 2) L ∧ xs (i + 2).toNatClampNeg = v2) (hi3 : vp_in (i + 3) L ∧ xs (i + 3).toNatClampNeg = v3) (hi4 : vp_in (i + 4) L ∧ xs (i + 4).toNatClampNeg = v4) (hi5 : vp_in (i + 5) L ∧ xs (i + 5).toNatClampNeg = v5) (hcs : xsRmC C0 D0) (hP : va_P (xsD X) vwCl (wK X kIsKept kIsStale hiLatest hiSize scBytes scTold scLength scFault scAt scNumber piSegmentsNow enKind enX enY enLower enFromX enFromY enToX enToY tiTouching tiLyingAlong tiMeetingPairs tiAlongPairs tiSize evX evY evLower evBundle evCrossingOf evEventOf evLeftEvent evRightEvent evSize evCrossings evSegmentsNow grDegree grEdges grFar grQueue grQueued huX huY huSize huBestX huBestY S (xsOc X ou :: wM X mThrown mWorld mImage mDraft mEarlier mRemembered mHasImage mIsLaid mOne mTwo mShare mX mY mD mEventX mEventY mEventD mEvents mCrossingOf mBundle mEventOf mDegree mFrom mTo mCrossings mEdges mMet mUpper mLower mTape mTaped mPoint mEnd mBegin mFaultAt mFive mTold mActs mFar mViews mHullX mHullY mEndX mEndY mHeightUp mHeightLow mMeets mMeetsOf [])) H) (hD : va_D (xsF X) (wK X kIsKept kIsStale hiLatest hiSize scBytes scTold scLength scFault scAt scNumber piSegmentsNow enKind enX enY enLower enFromX enFromY enToX enToY tiTouching tiLyingAlong tiMeetingPairs tiAlongPairs tiSize evX evY evLower evBundle evCrossingOf evEventOf evLeftEvent evRightEvent evSize evCrossings evSegmentsNow grDegree grEdges grFar grQueue grQueued huX huY huSize huBestX huBestY S (xsOc X ou :: wM X mThrown mWorld mImage mDraft mEarlier mRemembered mHasImage mIsLaid mOne mTwo mShare mX mY mD mEventX mEventY mEventD mEvents mCrossingOf mBundle mEventOf mDegree mFrom mTo mCrossings mEdges mMet mUpper mLower mTape mTaped mPoint mEnd mBegin mFaultAt mFive mTold mActs mFar mViews mHullX mHullY mEndX mEndY mHeightUp mHeightLow mMeets mMeetsOf []))) (hS : va_S (xsF X) s.heap H locs) (hl : lv_has ls 8 [(4, .int i), (3, .ref (xsA X 131)), (2, .ref (xsA X 100)), (1, .ref (xsA X 0)), (0, .ref b)]) (hR : Rl kIsKept kIsStale hiLatest hiSize scBytes scTold scLength scFault scAt scNumber piSegmentsNow enKind enX enY enLower enFromX enFromY enToX enToY tiTouching tiLyingAlong tiMeetingPairs tiAlongPairs tiSize evX evY evLower evBundle evCrossingOf evEventOf evLeftEvent evRightEvent evSize evCrossings evSegmentsNow grDegree grEdges grFar grQueue grQueued huX huY huSize huBestX huBestY S mThrown mWorld mImage mDraft mEarlier mRemembered mHasImage mIsLaid mOne mTwo mShare mX mY mD mEventX mEventY mEventD mEvents mCrossingOf mBundle mEventOf mDegree mFrom mTo mCrossings mEdges mMet mUpper mLower mTape mTaped mPoint mEnd mBegin mFaultAt mFive mTold mActs mFar mViews mHullX mHullY mEndX mEndY mHeightUp mHeightLow mMeets mMeetsOf)
    (kk : ∀ {kIsKept kIsStale hiLatest hiSize scLength scFault scAt scNumber piSegmentsNow enKind enFromX enFromY enToX enToY tiMeetingPairs tiAlongPairs tiSize evSize evCrossings evSegmentsNow grEdges grQueued huSize huBestX huBestY : Int32} {scBytes scTold tiTouching tiLyingAlong evBundle evCrossingOf evEventOf evLeftEvent evRightEvent grDegree grFar grQueue huX huY : Nat → Int32} {enX enY enLower : Int64} {evX evY evLower : Nat → Int64} {S : Nat → xsV} {mThrown mRemembered mHasImage mIsLaid mEvents mCrossings mEdges mTaped mPoint mEnd mBegin mFaultAt mActs : Int32} {mWorld mImage mDraft mEarlier mOne mTwo mShare mCrossingOf mBundle mEventOf mDegree mFrom mTo mMet mTape mFive mTold mFar mViews mHullX mHullY mEndX mEndY mMeets mMeetsOf : Nat → Int32} {mX mY mD mHeightUp mHeightLow : Int64} {mEventX mEventY mEventD mUpper mLower : Nat → Int64} {ou : Nat → Int64} {ls : Array Slot} {H : Heap} {locs : List Loc}, Rl kIsKept kIsStale hiLatest hiSize scBytes scTold scLength scFault scAt scNumber piSegmentsNow enKind enX enY enLower enFromX enFromY enToX enToY tiTouching tiLyingAlong tiMeetingPairs tiAlongPairs tiSize evX evY evLower evBundle evCrossingOf evEventOf evLeftEvent evRightEvent evSize evCrossings evSegmentsNow grDegree grEdges grFar grQueue grQueued huX huY huSize huBestX huBestY S mThrown mWorld mImage mDraft mEarlier mRemembered mHasImage mIsLaid mOne mTwo mShare mX mY mD mEventX mEventY mEventD mEvents mCrossingOf mBundle mEventOf mDegree mFrom mTo mCrossings mEdges mMet mUpper mLower mTape mTaped mPoint mEnd mBegin mFaultAt mFive mTold mActs mFar mViews mHullX mHullY mEndX mEndY mHeightUp mHeightLow mMeets mMeetsOf → va_P (xsD X) vwCl (wK X kIsKept kIsStale hiLatest hiSize scBytes scTold scLength scFault scAt scNumber piSegmentsNow enKind enX enY enLower enFromX enFromY enToX enToY tiTouching tiLyingAlong tiMeetingPairs tiAlongPairs tiSize evX evY evLower evBundle evCrossingOf evEventOf evLeftEvent evRightEvent evSize evCrossings evSegmentsNow grDegree grEdges grFar grQueue grQueued huX huY huSize huBestX huBestY S (xsOc X ou :: wM X mThrown mWorld mImage mDraft mEarlier mRemembered mHasImage mIsLaid mOne mTwo mShare mX mY mD mEventX mEventY mEventD mEvents mCrossingOf mBundle mEventOf mDegree mFrom mTo mCrossings mEdges mMet mUpper mLower mTape mTaped mPoint mEnd mBegin mFaultAt mFive mTold mActs mFar mViews mHullX mHullY mEndX mEndY mHeightUp mHeightLow mMeets mMeetsOf [])) H → va_D (xsF X) (wK X kIsKept kIsStale hiLatest hiSize scBytes scTold scLength scFault scAt scNumber piSegmentsNow enKind enX enY enLower enFromX enFromY enToX enToY tiTouching tiLyingAlong tiMeetingPairs tiAlongPairs tiSize evX evY evLower evBundle evCrossingOf evEventOf evLeftEvent evRightEvent evSize evCrossings evSegmentsNow grDegree grEdges grFar grQueue grQueued huX huY huSize huBestX huBestY S (xsOc X ou :: wM X mThrown mWorld mImage mDraft mEarlier mRemembered mHasImage mIsLaid mOne mTwo mShare mX mY mD mEventX mEventY mEventD mEvents mCrossingOf mBundle mEventOf mDegree mFrom mTo mCrossings mEdges mMet mUpper mLower mTape mTaped mPoint mEnd mBegin mFaultAt mFive mTold mActs mFar mViews mHullX mHullY mEndX mEndY mHeightUp mHeightLow mMeets mMeetsOf [])) → va_S (xsF X) s.heap H locs → lv_has ls 8 [(4, .int i), (3, .ref (xsA X 131)), (2, .ref (xsA X 100)), (1, .ref (xsA X 0)), (0, .ref b)] → W p l e room_1 s m #[.ref b] below meth c H locs (C0 + 5) (D0 + 30) Q (F0 m 2175 ls [])) :
    W p l e room_1 s m #[.ref b] below meth c H locs C0 D0 Q (F0 m 503 ls []) := by
  have hx := C.1
  have hb := C.2.1
  obtain ⟨out, mo, ef, em, hor⟩ := hp hR v1 v2 v3
  rcases hor with ⟨tt, eo, ea, et, hR⟩ | ⟨n, tt, eo, en, et, hR⟩
  · subst eo
    refine lv_aload_n hx hb dL_law_503 rfl (lv_at hl 3 rfl) ?_
    refine lv_aload_n hx hb dL_law_504 rfl (lv_at hl 4 rfl) ?_
    refine lv_iload hx hb dL_law_505 (lv_at hl 0 rfl) ?_
    refine lv_iconst (v := (1 : Int32)) hx hb dL_law_507 (by decide) ?_
    refine lv_iadd hx hb dL_law_508 ?_
    refine xs_lld C hX hbz hbl hS hi1 dL_law_509 ?_
    refine lv_aload_n hx hb dL_law_510 rfl (lv_at hl 4 rfl) ?_
    refine lv_iload hx hb dL_law_511 (lv_at hl 0 rfl) ?_
    refine lv_iconst (v := (2 : Int32)) hx hb dL_law_513 (by decide) ?_
    refine lv_iadd hx hb dL_law_514 ?_
    refine xs_lld C hX hbz hbl hS hi2 dL_law_515 ?_
    refine lv_aload_n hx hb dL_law_516 rfl (lv_at hl 4 rfl) ?_
    refine lv_iload hx hb dL_law_517 (lv_at hl 0 rfl) ?_
    refine lv_iconst (v := (3 : Int32)) hx hb dL_law_519 (by decide) ?_
    refine lv_iadd hx hb dL_law_520 ?_
    refine xs_lld C hX hbz hbl hS hi3 dL_law_521 ?_
    refine lv_aload_n hx hb dL_law_522 rfl (lv_at hl 1 rfl) ?_
    refine xs_lcalli hS (xs_lrunS (As := [.ref (xsA X 0), .int v1, .int v2, .int v3, .ref (xsA X 131)]) (rest := []) C (mL_move l hst (xs_eta (S 0)) (hist := fun i => S (4 + i)) (fun _ => rfl) ef (fun n tt h => by cases h)) w_1042 w_1043 w_104 w_1044 hd_L_move (xsRmL hcs (by decide) (by decide) (by decide) (by decide)) hP hD hS hl.1 rfl (Nat.le_of_ble_eq_true rfl) dL_law_523) (fun r u H locs hq hP hD hS => ?_)
    rcases hq with ⟨tx, e1, e2, e3⟩ | ⟨n, tx, e1, e2, e3⟩
    · cases e1
      subst e3
      subst e2
      refine lv_istore (lv' := [(5, .int 0), (4, .int i), (3, .ref (xsA X 131)), (2, .ref (xsA X 100)), (1, .ref (xsA X 0)), (0, .ref b)]) hx hb dL_law_526 hl (by decide) rfl (fun ls hl => ?_)
      refine lv_aload_n hx hb dL_law_528 rfl (lv_at hl 3 rfl) ?_
      refine lv_aload_n hx hb dL_law_529 rfl (lv_at hl 5 rfl) ?_
      refine lv_iload hx hb dL_law_530 (lv_at hl 1 rfl) ?_
      refine lv_iconst (v := (1 : Int32)) hx hb dL_law_532 (by decide) ?_
      refine lv_iadd hx hb dL_law_533 ?_
      refine xs_lld C hX hbz hbl hS hi1 dL_law_534 ?_
      refine lv_aload_n hx hb dL_law_535 rfl (lv_at hl 5 rfl) ?_
      refine lv_iload hx hb dL_law_536 (lv_at hl 1 rfl) ?_
      refine lv_iconst (v := (2 : Int32)) hx hb dL_law_538 (by decide) ?_
      refine lv_iadd hx hb dL_law_539 ?_
      refine xs_lld C hX hbz hbl hS hi2 dL_law_540 ?_
      refine lv_aload_n hx hb dL_law_541 rfl (lv_at hl 5 rfl) ?_
      refine lv_iload hx hb dL_law_542 (lv_at hl 1 rfl) ?_
      refine lv_iconst (v := (3 : Int32)) hx hb dL_law_544 (by decide) ?_
      refine lv_iadd hx hb dL_law_545 ?_
      refine xs_lld C hX hbz hbl hS hi3 dL_law_546 ?_
      replace hP := xs_toM hP
      replace hD := xs_toMD hD
      refine xs_calli hS (xs_runV (As := [.int v1, .int v2, .int v3]) (rest := []) C (mX11_move l em) w_1707 w_1708 w_1709 w_115 w_1710 hd_X11_move (xsRmB hcs (by decide) (by decide) (by decide) (by decide)) hP hD hS lk_X11 rfl hl.1 rfl (Nat.le_of_ble_eq_true rfl) dL_law_547) (fun H locs hP hD hS => ?_)
      refine lv_istore (lv' := [(6, .int mo.1), (5, .int 0), (4, .int i), (3, .ref (xsA X 131)), (2, .ref (xsA X 100)), (1, .ref (xsA X 0)), (0, .ref b)]) hx hb dL_law_550 hl (by decide) rfl (fun ls hl => ?_)
      refine lv_aload_n hx hb dL_law_552 rfl (lv_at hl 4 rfl) ?_
      refine xs_calli hS (xs_runV (As := []) (rest := []) C (mX11_thrown l rfl) w_1343 w_1344 w_1345 w_115 w_1346 hd_X11_thrown (xsRmB hcs (by decide) (by decide) (by decide) (by decide)) hP hD hS lk_X11 rfl hl.1 rfl (Nat.le_of_ble_eq_true rfl) dL_law_553) (fun H locs hP hD hS => ?_)
      replace hP := xs_toK hP
      replace hD := xs_toKD hD
      refine lv_iload hx hb dL_law_556 (lv_at hl 1 rfl) ?_
      refine lv_icmp_eq (tgt := 563) hx hb dL_law_558 (by decide) (fun _ => ?_) (fun q => absurd et q)
      refine lv_iload hx hb dL_law_563 (lv_at hl 1 rfl) ?_
      refine lv_if_ne (tgt := 580) hx hb dL_law_565 (by decide) (fun q => absurd rfl q) (fun _ => ?_)
      refine lv_aload_n hx hb dL_law_568 rfl (lv_at hl 3 rfl) ?_
      refine lv_iconst (v := (0 : Int32)) hx hb dL_law_569 (by decide) ?_
      refine xs_lald C hP (q0 := 99) rfl (vp_in_nI (n := 0) (by decide) (by decide)) dL_law_570 ?_
      refine lv_iload hx hb dL_law_571 (lv_at hl 0 rfl) ?_
      refine lv_i2l hx hb dL_law_573 rfl ?_
      refine xs_lcmp_eq (tgt := 580) C dL_law_574 dL_law_575 (by decide) (fun _ => ?_) (fun q => absurd (xs_ou0 (congrArg Int32.toInt64 ea)) q)
      refine lv_goto (tgt := 2175) hx hb dL_law_580 (by decide) ?_
      exact W.widen (Nat.add_le_add_left (by decide) _) (Nat.add_le_add_left (by decide) _) (kk hR hP hD hS (lv_sub hl [2, 3, 4, 5, 6] rfl))
    · cases e1
  · subst eo
    refine lv_aload_n hx hb dL_law_503 rfl (lv_at hl 3 rfl) ?_
    refine lv_aload_n hx hb dL_law_504 rfl (lv_at hl 4 rfl) ?_
    refine lv_iload hx hb dL_law_505 (lv_at hl 0 rfl) ?_
    refine lv_iconst (v := (1 : Int32)) hx hb dL_law_507 (by decide) ?_
    refine lv_iadd hx hb dL_law_508 ?_
    refine xs_lld C hX hbz hbl hS hi1 dL_law_509 ?_
    refine lv_aload_n hx hb dL_law_510 rfl (lv_at hl 4 rfl) ?_
    refine lv_iload hx hb dL_law_511 (lv_at hl 0 rfl) ?_
    refine lv_iconst (v := (2 : Int32)) hx hb dL_law_513 (by decide) ?_
    refine lv_iadd hx hb dL_law_514 ?_
    refine xs_lld C hX hbz hbl hS hi2 dL_law_515 ?_
    refine lv_aload_n hx hb dL_law_516 rfl (lv_at hl 4 rfl) ?_
    refine lv_iload hx hb dL_law_517 (lv_at hl 0 rfl) ?_
    refine lv_iconst (v := (3 : Int32)) hx hb dL_law_519 (by decide) ?_
    refine lv_iadd hx hb dL_law_520 ?_
    refine xs_lld C hX hbz hbl hS hi3 dL_law_521 ?_
    refine lv_aload_n hx hb dL_law_522 rfl (lv_at hl 1 rfl) ?_
    refine xs_lcalli hS (xs_lrunS (As := [.ref (xsA X 0), .int v1, .int v2, .int v3, .ref (xsA X 131)]) (rest := []) C (mL_move l hst (xs_eta (S 0)) (hist := fun i => S (4 + i)) (fun _ => rfl) ef (fun n2 t2 h => by cases h; exact en)) w_1042 w_1043 w_104 w_1044 hd_L_move (xsRmL hcs (by decide) (by decide) (by decide) (by decide)) hP hD hS hl.1 rfl (Nat.le_of_ble_eq_true rfl) dL_law_523) (fun r u H locs hq hP hD hS => ?_)
    rcases hq with ⟨tx, e1, e2, e3⟩ | ⟨n2, tx, e1, e2, e3⟩
    · cases e1
    · cases e1
      subst e3
      have ekn : ¬ r = 0 := by rw [e2]; rcases en with rfl | rfl <;> decide
      replace et := et.trans e2.symm
      refine lv_istore (lv' := [(5, .int r), (4, .int i), (3, .ref (xsA X 131)), (2, .ref (xsA X 100)), (1, .ref (xsA X 0)), (0, .ref b)]) hx hb dL_law_526 hl (by decide) rfl (fun ls hl => ?_)
      refine lv_aload_n hx hb dL_law_528 rfl (lv_at hl 3 rfl) ?_
      refine lv_aload_n hx hb dL_law_529 rfl (lv_at hl 5 rfl) ?_
      refine lv_iload hx hb dL_law_530 (lv_at hl 1 rfl) ?_
      refine lv_iconst (v := (1 : Int32)) hx hb dL_law_532 (by decide) ?_
      refine lv_iadd hx hb dL_law_533 ?_
      refine xs_lld C hX hbz hbl hS hi1 dL_law_534 ?_
      refine lv_aload_n hx hb dL_law_535 rfl (lv_at hl 5 rfl) ?_
      refine lv_iload hx hb dL_law_536 (lv_at hl 1 rfl) ?_
      refine lv_iconst (v := (2 : Int32)) hx hb dL_law_538 (by decide) ?_
      refine lv_iadd hx hb dL_law_539 ?_
      refine xs_lld C hX hbz hbl hS hi2 dL_law_540 ?_
      refine lv_aload_n hx hb dL_law_541 rfl (lv_at hl 5 rfl) ?_
      refine lv_iload hx hb dL_law_542 (lv_at hl 1 rfl) ?_
      refine lv_iconst (v := (3 : Int32)) hx hb dL_law_544 (by decide) ?_
      refine lv_iadd hx hb dL_law_545 ?_
      refine xs_lld C hX hbz hbl hS hi3 dL_law_546 ?_
      replace hP := xs_toM hP
      replace hD := xs_toMD hD
      refine xs_calli hS (xs_runV (As := [.int v1, .int v2, .int v3]) (rest := []) C (mX11_move l em) w_1707 w_1708 w_1709 w_115 w_1710 hd_X11_move (xsRmB hcs (by decide) (by decide) (by decide) (by decide)) hP hD hS lk_X11 rfl hl.1 rfl (Nat.le_of_ble_eq_true rfl) dL_law_547) (fun H locs hP hD hS => ?_)
      refine lv_istore (lv' := [(6, .int mo.1), (5, .int r), (4, .int i), (3, .ref (xsA X 131)), (2, .ref (xsA X 100)), (1, .ref (xsA X 0)), (0, .ref b)]) hx hb dL_law_550 hl (by decide) rfl (fun ls hl => ?_)
      refine lv_aload_n hx hb dL_law_552 rfl (lv_at hl 4 rfl) ?_
      refine xs_calli hS (xs_runV (As := []) (rest := []) C (mX11_thrown l rfl) w_1343 w_1344 w_1345 w_115 w_1346 hd_X11_thrown (xsRmB hcs (by decide) (by decide) (by decide) (by decide)) hP hD hS lk_X11 rfl hl.1 rfl (Nat.le_of_ble_eq_true rfl) dL_law_553) (fun H locs hP hD hS => ?_)
      replace hP := xs_toK hP
      replace hD := xs_toKD hD
      refine lv_iload hx hb dL_law_556 (lv_at hl 1 rfl) ?_
      refine lv_icmp_eq (tgt := 563) hx hb dL_law_558 (by decide) (fun _ => ?_) (fun q => absurd et q)
      refine lv_iload hx hb dL_law_563 (lv_at hl 1 rfl) ?_
      refine lv_if_ne (tgt := 580) hx hb dL_law_565 (by decide) (fun _ => ?_) (fun q => absurd q (ekn))
      refine lv_goto (tgt := 2175) hx hb dL_law_580 (by decide) ?_
      exact W.widen (Nat.add_le_add_left (by decide) _) (Nat.add_le_add_left (by decide) _) (kk hR hP hD hS (lv_sub hl [2, 3, 4, 5, 6] rfl))
set_option maxRecDepth 100000 in
set_option maxHeartbeats 8000000 in
theorem lc_tint {Rl : xsRel} (l : Launch) (hst : l.stackTraces = false) (hp : pc_tint Rl) {i v1 v2 v3 v4 v5 : Int32} (C : xsC p s m c cL_law #[.ref b] RL 8 X) (hX : va_X b L xs s s.heap) (hbz : b < xsZ X) (hbl : b < s.heap.size) (hi1 : vp_in (i + 1) L ∧ xs (i + 1).toNatClampNeg = v1) (hi2 : vp_in (i + 2) L ∧ xs (i + 2).toNatClampNeg = v2) (hi3 : vp_in (i + 3) L ∧ xs (i + 3).toNatClampNeg = v3) (hi4 : vp_in (i + 4) L ∧ xs (i + 4).toNatClampNeg = v4) (hi5 : vp_in (i + 5) L ∧ xs (i + 5).toNatClampNeg = v5) (hcs : xsRmC C0 D0) (hP : va_P (xsD X) vwCl (wK X kIsKept kIsStale hiLatest hiSize scBytes scTold scLength scFault scAt scNumber piSegmentsNow enKind enX enY enLower enFromX enFromY enToX enToY tiTouching tiLyingAlong tiMeetingPairs tiAlongPairs tiSize evX evY evLower evBundle evCrossingOf evEventOf evLeftEvent evRightEvent evSize evCrossings evSegmentsNow grDegree grEdges grFar grQueue grQueued huX huY huSize huBestX huBestY S (xsOc X ou :: wM X mThrown mWorld mImage mDraft mEarlier mRemembered mHasImage mIsLaid mOne mTwo mShare mX mY mD mEventX mEventY mEventD mEvents mCrossingOf mBundle mEventOf mDegree mFrom mTo mCrossings mEdges mMet mUpper mLower mTape mTaped mPoint mEnd mBegin mFaultAt mFive mTold mActs mFar mViews mHullX mHullY mEndX mEndY mHeightUp mHeightLow mMeets mMeetsOf [])) H) (hD : va_D (xsF X) (wK X kIsKept kIsStale hiLatest hiSize scBytes scTold scLength scFault scAt scNumber piSegmentsNow enKind enX enY enLower enFromX enFromY enToX enToY tiTouching tiLyingAlong tiMeetingPairs tiAlongPairs tiSize evX evY evLower evBundle evCrossingOf evEventOf evLeftEvent evRightEvent evSize evCrossings evSegmentsNow grDegree grEdges grFar grQueue grQueued huX huY huSize huBestX huBestY S (xsOc X ou :: wM X mThrown mWorld mImage mDraft mEarlier mRemembered mHasImage mIsLaid mOne mTwo mShare mX mY mD mEventX mEventY mEventD mEvents mCrossingOf mBundle mEventOf mDegree mFrom mTo mCrossings mEdges mMet mUpper mLower mTape mTaped mPoint mEnd mBegin mFaultAt mFive mTold mActs mFar mViews mHullX mHullY mEndX mEndY mHeightUp mHeightLow mMeets mMeetsOf []))) (hS : va_S (xsF X) s.heap H locs) (hl : lv_has ls 8 [(4, .int i), (3, .ref (xsA X 131)), (2, .ref (xsA X 100)), (1, .ref (xsA X 0)), (0, .ref b)]) (hR : Rl kIsKept kIsStale hiLatest hiSize scBytes scTold scLength scFault scAt scNumber piSegmentsNow enKind enX enY enLower enFromX enFromY enToX enToY tiTouching tiLyingAlong tiMeetingPairs tiAlongPairs tiSize evX evY evLower evBundle evCrossingOf evEventOf evLeftEvent evRightEvent evSize evCrossings evSegmentsNow grDegree grEdges grFar grQueue grQueued huX huY huSize huBestX huBestY S mThrown mWorld mImage mDraft mEarlier mRemembered mHasImage mIsLaid mOne mTwo mShare mX mY mD mEventX mEventY mEventD mEvents mCrossingOf mBundle mEventOf mDegree mFrom mTo mCrossings mEdges mMet mUpper mLower mTape mTaped mPoint mEnd mBegin mFaultAt mFive mTold mActs mFar mViews mHullX mHullY mEndX mEndY mHeightUp mHeightLow mMeets mMeetsOf)
    (kk : ∀ {kIsKept kIsStale hiLatest hiSize scLength scFault scAt scNumber piSegmentsNow enKind enFromX enFromY enToX enToY tiMeetingPairs tiAlongPairs tiSize evSize evCrossings evSegmentsNow grEdges grQueued huSize huBestX huBestY : Int32} {scBytes scTold tiTouching tiLyingAlong evBundle evCrossingOf evEventOf evLeftEvent evRightEvent grDegree grFar grQueue huX huY : Nat → Int32} {enX enY enLower : Int64} {evX evY evLower : Nat → Int64} {S : Nat → xsV} {mThrown mRemembered mHasImage mIsLaid mEvents mCrossings mEdges mTaped mPoint mEnd mBegin mFaultAt mActs : Int32} {mWorld mImage mDraft mEarlier mOne mTwo mShare mCrossingOf mBundle mEventOf mDegree mFrom mTo mMet mTape mFive mTold mFar mViews mHullX mHullY mEndX mEndY mMeets mMeetsOf : Nat → Int32} {mX mY mD mHeightUp mHeightLow : Int64} {mEventX mEventY mEventD mUpper mLower : Nat → Int64} {ou : Nat → Int64} {ls : Array Slot} {H : Heap} {locs : List Loc}, Rl kIsKept kIsStale hiLatest hiSize scBytes scTold scLength scFault scAt scNumber piSegmentsNow enKind enX enY enLower enFromX enFromY enToX enToY tiTouching tiLyingAlong tiMeetingPairs tiAlongPairs tiSize evX evY evLower evBundle evCrossingOf evEventOf evLeftEvent evRightEvent evSize evCrossings evSegmentsNow grDegree grEdges grFar grQueue grQueued huX huY huSize huBestX huBestY S mThrown mWorld mImage mDraft mEarlier mRemembered mHasImage mIsLaid mOne mTwo mShare mX mY mD mEventX mEventY mEventD mEvents mCrossingOf mBundle mEventOf mDegree mFrom mTo mCrossings mEdges mMet mUpper mLower mTape mTaped mPoint mEnd mBegin mFaultAt mFive mTold mActs mFar mViews mHullX mHullY mEndX mEndY mHeightUp mHeightLow mMeets mMeetsOf → va_P (xsD X) vwCl (wK X kIsKept kIsStale hiLatest hiSize scBytes scTold scLength scFault scAt scNumber piSegmentsNow enKind enX enY enLower enFromX enFromY enToX enToY tiTouching tiLyingAlong tiMeetingPairs tiAlongPairs tiSize evX evY evLower evBundle evCrossingOf evEventOf evLeftEvent evRightEvent evSize evCrossings evSegmentsNow grDegree grEdges grFar grQueue grQueued huX huY huSize huBestX huBestY S (xsOc X ou :: wM X mThrown mWorld mImage mDraft mEarlier mRemembered mHasImage mIsLaid mOne mTwo mShare mX mY mD mEventX mEventY mEventD mEvents mCrossingOf mBundle mEventOf mDegree mFrom mTo mCrossings mEdges mMet mUpper mLower mTape mTaped mPoint mEnd mBegin mFaultAt mFive mTold mActs mFar mViews mHullX mHullY mEndX mEndY mHeightUp mHeightLow mMeets mMeetsOf [])) H → va_D (xsF X) (wK X kIsKept kIsStale hiLatest hiSize scBytes scTold scLength scFault scAt scNumber piSegmentsNow enKind enX enY enLower enFromX enFromY enToX enToY tiTouching tiLyingAlong tiMeetingPairs tiAlongPairs tiSize evX evY evLower evBundle evCrossingOf evEventOf evLeftEvent evRightEvent evSize evCrossings evSegmentsNow grDegree grEdges grFar grQueue grQueued huX huY huSize huBestX huBestY S (xsOc X ou :: wM X mThrown mWorld mImage mDraft mEarlier mRemembered mHasImage mIsLaid mOne mTwo mShare mX mY mD mEventX mEventY mEventD mEvents mCrossingOf mBundle mEventOf mDegree mFrom mTo mCrossings mEdges mMet mUpper mLower mTape mTaped mPoint mEnd mBegin mFaultAt mFive mTold mActs mFar mViews mHullX mHullY mEndX mEndY mHeightUp mHeightLow mMeets mMeetsOf [])) → va_S (xsF X) s.heap H locs → lv_has ls 8 [(4, .int i), (3, .ref (xsA X 131)), (2, .ref (xsA X 100)), (1, .ref (xsA X 0)), (0, .ref b)] → W p l e room_1 s m #[.ref b] below meth c H locs (C0 + 5) (D0 + 30) Q (F0 m 2175 ls [])) :
    W p l e room_1 s m #[.ref b] below meth c H locs C0 D0 Q (F0 m 583 ls []) := by
  have hx := C.1
  have hb := C.2.1
  obtain ⟨out, mo, ef, em, hor⟩ := hp hR v1 v2
  rcases hor with ⟨tt, eo, ea, et, hR⟩ | ⟨n, tt, eo, en, et, hR⟩
  · subst eo
    refine lv_aload_n hx hb dL_law_583 rfl (lv_at hl 3 rfl) ?_
    refine lv_aload_n hx hb dL_law_584 rfl (lv_at hl 4 rfl) ?_
    refine lv_iload hx hb dL_law_585 (lv_at hl 0 rfl) ?_
    refine lv_iconst (v := (1 : Int32)) hx hb dL_law_587 (by decide) ?_
    refine lv_iadd hx hb dL_law_588 ?_
    refine xs_lld C hX hbz hbl hS hi1 dL_law_589 ?_
    refine lv_aload_n hx hb dL_law_590 rfl (lv_at hl 4 rfl) ?_
    refine lv_iload hx hb dL_law_591 (lv_at hl 0 rfl) ?_
    refine lv_iconst (v := (2 : Int32)) hx hb dL_law_593 (by decide) ?_
    refine lv_iadd hx hb dL_law_594 ?_
    refine xs_lld C hX hbz hbl hS hi2 dL_law_595 ?_
    refine lv_aload_n hx hb dL_law_596 rfl (lv_at hl 1 rfl) ?_
    refine xs_lcalli hS (xs_lrunS (As := [.ref (xsA X 0), .int v1, .int v2, .ref (xsA X 131)]) (rest := []) C (mL_tint l hst (xs_eta (S 0)) (hist := fun i => S (4 + i)) (fun _ => rfl) ef (fun n tt h => by cases h)) w_1052 w_1053 w_104 w_1054 hd_L_tint (xsRmL hcs (by decide) (by decide) (by decide) (by decide)) hP hD hS hl.1 rfl (Nat.le_of_ble_eq_true rfl) dL_law_597) (fun r u H locs hq hP hD hS => ?_)
    rcases hq with ⟨tx, e1, e2, e3⟩ | ⟨n, tx, e1, e2, e3⟩
    · cases e1
      subst e3
      subst e2
      refine lv_istore (lv' := [(5, .int 0), (4, .int i), (3, .ref (xsA X 131)), (2, .ref (xsA X 100)), (1, .ref (xsA X 0)), (0, .ref b)]) hx hb dL_law_600 hl (by decide) rfl (fun ls hl => ?_)
      refine lv_aload_n hx hb dL_law_602 rfl (lv_at hl 3 rfl) ?_
      refine lv_aload_n hx hb dL_law_603 rfl (lv_at hl 5 rfl) ?_
      refine lv_iload hx hb dL_law_604 (lv_at hl 1 rfl) ?_
      refine lv_iconst (v := (1 : Int32)) hx hb dL_law_606 (by decide) ?_
      refine lv_iadd hx hb dL_law_607 ?_
      refine xs_lld C hX hbz hbl hS hi1 dL_law_608 ?_
      refine lv_aload_n hx hb dL_law_609 rfl (lv_at hl 5 rfl) ?_
      refine lv_iload hx hb dL_law_610 (lv_at hl 1 rfl) ?_
      refine lv_iconst (v := (2 : Int32)) hx hb dL_law_612 (by decide) ?_
      refine lv_iadd hx hb dL_law_613 ?_
      refine xs_lld C hX hbz hbl hS hi2 dL_law_614 ?_
      replace hP := xs_toM hP
      replace hD := xs_toMD hD
      refine xs_calli hS (xs_runV (As := [.int v1, .int v2]) (rest := []) C (mX11_tint l em) w_1711 w_1712 w_1713 w_115 w_1714 hd_X11_tint (xsRmB hcs (by decide) (by decide) (by decide) (by decide)) hP hD hS lk_X11 rfl hl.1 rfl (Nat.le_of_ble_eq_true rfl) dL_law_615) (fun H locs hP hD hS => ?_)
      refine lv_istore (lv' := [(6, .int mo.1), (5, .int 0), (4, .int i), (3, .ref (xsA X 131)), (2, .ref (xsA X 100)), (1, .ref (xsA X 0)), (0, .ref b)]) hx hb dL_law_618 hl (by decide) rfl (fun ls hl => ?_)
      refine lv_aload_n hx hb dL_law_620 rfl (lv_at hl 4 rfl) ?_
      refine xs_calli hS (xs_runV (As := []) (rest := []) C (mX11_thrown l rfl) w_1343 w_1344 w_1345 w_115 w_1346 hd_X11_thrown (xsRmB hcs (by decide) (by decide) (by decide) (by decide)) hP hD hS lk_X11 rfl hl.1 rfl (Nat.le_of_ble_eq_true rfl) dL_law_621) (fun H locs hP hD hS => ?_)
      replace hP := xs_toK hP
      replace hD := xs_toKD hD
      refine lv_iload hx hb dL_law_624 (lv_at hl 1 rfl) ?_
      refine lv_icmp_eq (tgt := 631) hx hb dL_law_626 (by decide) (fun _ => ?_) (fun q => absurd et q)
      refine lv_iload hx hb dL_law_631 (lv_at hl 1 rfl) ?_
      refine lv_if_ne (tgt := 648) hx hb dL_law_633 (by decide) (fun q => absurd rfl q) (fun _ => ?_)
      refine lv_aload_n hx hb dL_law_636 rfl (lv_at hl 3 rfl) ?_
      refine lv_iconst (v := (0 : Int32)) hx hb dL_law_637 (by decide) ?_
      refine xs_lald C hP (q0 := 99) rfl (vp_in_nI (n := 0) (by decide) (by decide)) dL_law_638 ?_
      refine lv_iload hx hb dL_law_639 (lv_at hl 0 rfl) ?_
      refine lv_i2l hx hb dL_law_641 rfl ?_
      refine xs_lcmp_eq (tgt := 648) C dL_law_642 dL_law_643 (by decide) (fun _ => ?_) (fun q => absurd (xs_ou0 (congrArg Int32.toInt64 ea)) q)
      refine lv_goto (tgt := 2175) hx hb dL_law_648 (by decide) ?_
      exact W.widen (Nat.add_le_add_left (by decide) _) (Nat.add_le_add_left (by decide) _) (kk hR hP hD hS (lv_sub hl [2, 3, 4, 5, 6] rfl))
    · cases e1
  · subst eo
    refine lv_aload_n hx hb dL_law_583 rfl (lv_at hl 3 rfl) ?_
    refine lv_aload_n hx hb dL_law_584 rfl (lv_at hl 4 rfl) ?_
    refine lv_iload hx hb dL_law_585 (lv_at hl 0 rfl) ?_
    refine lv_iconst (v := (1 : Int32)) hx hb dL_law_587 (by decide) ?_
    refine lv_iadd hx hb dL_law_588 ?_
    refine xs_lld C hX hbz hbl hS hi1 dL_law_589 ?_
    refine lv_aload_n hx hb dL_law_590 rfl (lv_at hl 4 rfl) ?_
    refine lv_iload hx hb dL_law_591 (lv_at hl 0 rfl) ?_
    refine lv_iconst (v := (2 : Int32)) hx hb dL_law_593 (by decide) ?_
    refine lv_iadd hx hb dL_law_594 ?_
    refine xs_lld C hX hbz hbl hS hi2 dL_law_595 ?_
    refine lv_aload_n hx hb dL_law_596 rfl (lv_at hl 1 rfl) ?_
    refine xs_lcalli hS (xs_lrunS (As := [.ref (xsA X 0), .int v1, .int v2, .ref (xsA X 131)]) (rest := []) C (mL_tint l hst (xs_eta (S 0)) (hist := fun i => S (4 + i)) (fun _ => rfl) ef (fun n2 t2 h => by cases h; exact en)) w_1052 w_1053 w_104 w_1054 hd_L_tint (xsRmL hcs (by decide) (by decide) (by decide) (by decide)) hP hD hS hl.1 rfl (Nat.le_of_ble_eq_true rfl) dL_law_597) (fun r u H locs hq hP hD hS => ?_)
    rcases hq with ⟨tx, e1, e2, e3⟩ | ⟨n2, tx, e1, e2, e3⟩
    · cases e1
    · cases e1
      subst e3
      have ekn : ¬ r = 0 := by rw [e2]; rcases en with rfl | rfl <;> decide
      replace et := et.trans e2.symm
      refine lv_istore (lv' := [(5, .int r), (4, .int i), (3, .ref (xsA X 131)), (2, .ref (xsA X 100)), (1, .ref (xsA X 0)), (0, .ref b)]) hx hb dL_law_600 hl (by decide) rfl (fun ls hl => ?_)
      refine lv_aload_n hx hb dL_law_602 rfl (lv_at hl 3 rfl) ?_
      refine lv_aload_n hx hb dL_law_603 rfl (lv_at hl 5 rfl) ?_
      refine lv_iload hx hb dL_law_604 (lv_at hl 1 rfl) ?_
      refine lv_iconst (v := (1 : Int32)) hx hb dL_law_606 (by decide) ?_
      refine lv_iadd hx hb dL_law_607 ?_
      refine xs_lld C hX hbz hbl hS hi1 dL_law_608 ?_
      refine lv_aload_n hx hb dL_law_609 rfl (lv_at hl 5 rfl) ?_
      refine lv_iload hx hb dL_law_610 (lv_at hl 1 rfl) ?_
      refine lv_iconst (v := (2 : Int32)) hx hb dL_law_612 (by decide) ?_
      refine lv_iadd hx hb dL_law_613 ?_
      refine xs_lld C hX hbz hbl hS hi2 dL_law_614 ?_
      replace hP := xs_toM hP
      replace hD := xs_toMD hD
      refine xs_calli hS (xs_runV (As := [.int v1, .int v2]) (rest := []) C (mX11_tint l em) w_1711 w_1712 w_1713 w_115 w_1714 hd_X11_tint (xsRmB hcs (by decide) (by decide) (by decide) (by decide)) hP hD hS lk_X11 rfl hl.1 rfl (Nat.le_of_ble_eq_true rfl) dL_law_615) (fun H locs hP hD hS => ?_)
      refine lv_istore (lv' := [(6, .int mo.1), (5, .int r), (4, .int i), (3, .ref (xsA X 131)), (2, .ref (xsA X 100)), (1, .ref (xsA X 0)), (0, .ref b)]) hx hb dL_law_618 hl (by decide) rfl (fun ls hl => ?_)
      refine lv_aload_n hx hb dL_law_620 rfl (lv_at hl 4 rfl) ?_
      refine xs_calli hS (xs_runV (As := []) (rest := []) C (mX11_thrown l rfl) w_1343 w_1344 w_1345 w_115 w_1346 hd_X11_thrown (xsRmB hcs (by decide) (by decide) (by decide) (by decide)) hP hD hS lk_X11 rfl hl.1 rfl (Nat.le_of_ble_eq_true rfl) dL_law_621) (fun H locs hP hD hS => ?_)
      replace hP := xs_toK hP
      replace hD := xs_toKD hD
      refine lv_iload hx hb dL_law_624 (lv_at hl 1 rfl) ?_
      refine lv_icmp_eq (tgt := 631) hx hb dL_law_626 (by decide) (fun _ => ?_) (fun q => absurd et q)
      refine lv_iload hx hb dL_law_631 (lv_at hl 1 rfl) ?_
      refine lv_if_ne (tgt := 648) hx hb dL_law_633 (by decide) (fun _ => ?_) (fun q => absurd q (ekn))
      refine lv_goto (tgt := 2175) hx hb dL_law_648 (by decide) ?_
      exact W.widen (Nat.add_le_add_left (by decide) _) (Nat.add_le_add_left (by decide) _) (kk hR hP hD hS (lv_sub hl [2, 3, 4, 5, 6] rfl))
set_option maxRecDepth 100000 in
set_option maxHeartbeats 8000000 in
theorem lc_turn {Rl : xsRel} (l : Launch) (hst : l.stackTraces = false) (hp : pc_turn Rl) {i v1 v2 v3 v4 v5 : Int32} (C : xsC p s m c cL_law #[.ref b] RL 8 X) (hX : va_X b L xs s s.heap) (hbz : b < xsZ X) (hbl : b < s.heap.size) (hi1 : vp_in (i + 1) L ∧ xs (i + 1).toNatClampNeg = v1) (hi2 : vp_in (i + 2) L ∧ xs (i + 2).toNatClampNeg = v2) (hi3 : vp_in (i + 3) L ∧ xs (i + 3).toNatClampNeg = v3) (hi4 : vp_in (i + 4) L ∧ xs (i + 4).toNatClampNeg = v4) (hi5 : vp_in (i + 5) L ∧ xs (i + 5).toNatClampNeg = v5) (hcs : xsRmC C0 D0) (hP : va_P (xsD X) vwCl (wK X kIsKept kIsStale hiLatest hiSize scBytes scTold scLength scFault scAt scNumber piSegmentsNow enKind enX enY enLower enFromX enFromY enToX enToY tiTouching tiLyingAlong tiMeetingPairs tiAlongPairs tiSize evX evY evLower evBundle evCrossingOf evEventOf evLeftEvent evRightEvent evSize evCrossings evSegmentsNow grDegree grEdges grFar grQueue grQueued huX huY huSize huBestX huBestY S (xsOc X ou :: wM X mThrown mWorld mImage mDraft mEarlier mRemembered mHasImage mIsLaid mOne mTwo mShare mX mY mD mEventX mEventY mEventD mEvents mCrossingOf mBundle mEventOf mDegree mFrom mTo mCrossings mEdges mMet mUpper mLower mTape mTaped mPoint mEnd mBegin mFaultAt mFive mTold mActs mFar mViews mHullX mHullY mEndX mEndY mHeightUp mHeightLow mMeets mMeetsOf [])) H) (hD : va_D (xsF X) (wK X kIsKept kIsStale hiLatest hiSize scBytes scTold scLength scFault scAt scNumber piSegmentsNow enKind enX enY enLower enFromX enFromY enToX enToY tiTouching tiLyingAlong tiMeetingPairs tiAlongPairs tiSize evX evY evLower evBundle evCrossingOf evEventOf evLeftEvent evRightEvent evSize evCrossings evSegmentsNow grDegree grEdges grFar grQueue grQueued huX huY huSize huBestX huBestY S (xsOc X ou :: wM X mThrown mWorld mImage mDraft mEarlier mRemembered mHasImage mIsLaid mOne mTwo mShare mX mY mD mEventX mEventY mEventD mEvents mCrossingOf mBundle mEventOf mDegree mFrom mTo mCrossings mEdges mMet mUpper mLower mTape mTaped mPoint mEnd mBegin mFaultAt mFive mTold mActs mFar mViews mHullX mHullY mEndX mEndY mHeightUp mHeightLow mMeets mMeetsOf []))) (hS : va_S (xsF X) s.heap H locs) (hl : lv_has ls 8 [(4, .int i), (3, .ref (xsA X 131)), (2, .ref (xsA X 100)), (1, .ref (xsA X 0)), (0, .ref b)]) (hR : Rl kIsKept kIsStale hiLatest hiSize scBytes scTold scLength scFault scAt scNumber piSegmentsNow enKind enX enY enLower enFromX enFromY enToX enToY tiTouching tiLyingAlong tiMeetingPairs tiAlongPairs tiSize evX evY evLower evBundle evCrossingOf evEventOf evLeftEvent evRightEvent evSize evCrossings evSegmentsNow grDegree grEdges grFar grQueue grQueued huX huY huSize huBestX huBestY S mThrown mWorld mImage mDraft mEarlier mRemembered mHasImage mIsLaid mOne mTwo mShare mX mY mD mEventX mEventY mEventD mEvents mCrossingOf mBundle mEventOf mDegree mFrom mTo mCrossings mEdges mMet mUpper mLower mTape mTaped mPoint mEnd mBegin mFaultAt mFive mTold mActs mFar mViews mHullX mHullY mEndX mEndY mHeightUp mHeightLow mMeets mMeetsOf)
    (kk : ∀ {kIsKept kIsStale hiLatest hiSize scLength scFault scAt scNumber piSegmentsNow enKind enFromX enFromY enToX enToY tiMeetingPairs tiAlongPairs tiSize evSize evCrossings evSegmentsNow grEdges grQueued huSize huBestX huBestY : Int32} {scBytes scTold tiTouching tiLyingAlong evBundle evCrossingOf evEventOf evLeftEvent evRightEvent grDegree grFar grQueue huX huY : Nat → Int32} {enX enY enLower : Int64} {evX evY evLower : Nat → Int64} {S : Nat → xsV} {mThrown mRemembered mHasImage mIsLaid mEvents mCrossings mEdges mTaped mPoint mEnd mBegin mFaultAt mActs : Int32} {mWorld mImage mDraft mEarlier mOne mTwo mShare mCrossingOf mBundle mEventOf mDegree mFrom mTo mMet mTape mFive mTold mFar mViews mHullX mHullY mEndX mEndY mMeets mMeetsOf : Nat → Int32} {mX mY mD mHeightUp mHeightLow : Int64} {mEventX mEventY mEventD mUpper mLower : Nat → Int64} {ou : Nat → Int64} {ls : Array Slot} {H : Heap} {locs : List Loc}, Rl kIsKept kIsStale hiLatest hiSize scBytes scTold scLength scFault scAt scNumber piSegmentsNow enKind enX enY enLower enFromX enFromY enToX enToY tiTouching tiLyingAlong tiMeetingPairs tiAlongPairs tiSize evX evY evLower evBundle evCrossingOf evEventOf evLeftEvent evRightEvent evSize evCrossings evSegmentsNow grDegree grEdges grFar grQueue grQueued huX huY huSize huBestX huBestY S mThrown mWorld mImage mDraft mEarlier mRemembered mHasImage mIsLaid mOne mTwo mShare mX mY mD mEventX mEventY mEventD mEvents mCrossingOf mBundle mEventOf mDegree mFrom mTo mCrossings mEdges mMet mUpper mLower mTape mTaped mPoint mEnd mBegin mFaultAt mFive mTold mActs mFar mViews mHullX mHullY mEndX mEndY mHeightUp mHeightLow mMeets mMeetsOf → va_P (xsD X) vwCl (wK X kIsKept kIsStale hiLatest hiSize scBytes scTold scLength scFault scAt scNumber piSegmentsNow enKind enX enY enLower enFromX enFromY enToX enToY tiTouching tiLyingAlong tiMeetingPairs tiAlongPairs tiSize evX evY evLower evBundle evCrossingOf evEventOf evLeftEvent evRightEvent evSize evCrossings evSegmentsNow grDegree grEdges grFar grQueue grQueued huX huY huSize huBestX huBestY S (xsOc X ou :: wM X mThrown mWorld mImage mDraft mEarlier mRemembered mHasImage mIsLaid mOne mTwo mShare mX mY mD mEventX mEventY mEventD mEvents mCrossingOf mBundle mEventOf mDegree mFrom mTo mCrossings mEdges mMet mUpper mLower mTape mTaped mPoint mEnd mBegin mFaultAt mFive mTold mActs mFar mViews mHullX mHullY mEndX mEndY mHeightUp mHeightLow mMeets mMeetsOf [])) H → va_D (xsF X) (wK X kIsKept kIsStale hiLatest hiSize scBytes scTold scLength scFault scAt scNumber piSegmentsNow enKind enX enY enLower enFromX enFromY enToX enToY tiTouching tiLyingAlong tiMeetingPairs tiAlongPairs tiSize evX evY evLower evBundle evCrossingOf evEventOf evLeftEvent evRightEvent evSize evCrossings evSegmentsNow grDegree grEdges grFar grQueue grQueued huX huY huSize huBestX huBestY S (xsOc X ou :: wM X mThrown mWorld mImage mDraft mEarlier mRemembered mHasImage mIsLaid mOne mTwo mShare mX mY mD mEventX mEventY mEventD mEvents mCrossingOf mBundle mEventOf mDegree mFrom mTo mCrossings mEdges mMet mUpper mLower mTape mTaped mPoint mEnd mBegin mFaultAt mFive mTold mActs mFar mViews mHullX mHullY mEndX mEndY mHeightUp mHeightLow mMeets mMeetsOf [])) → va_S (xsF X) s.heap H locs → lv_has ls 8 [(4, .int i), (3, .ref (xsA X 131)), (2, .ref (xsA X 100)), (1, .ref (xsA X 0)), (0, .ref b)] → W p l e room_1 s m #[.ref b] below meth c H locs (C0 + 5) (D0 + 30) Q (F0 m 2175 ls [])) :
    W p l e room_1 s m #[.ref b] below meth c H locs C0 D0 Q (F0 m 651 ls []) := by
  have hx := C.1
  have hb := C.2.1
  obtain ⟨out, mo, ef, em, hor⟩ := hp hR 
  refine lv_aload_n hx hb dL_law_651 rfl (lv_at hl 3 rfl) ?_
  refine xs_calli hS (xs_runV (As := []) (rest := []) C (mX10_turn l (xs_eta (S 0)) (hist := fun i => S (4 + i)) (fun _ => rfl) ef) w_504 w_505 w_506 w_105 w_507 hd_X10_turn (xsRmA hcs (by decide) (by decide)) hP hD hS lk_X10 rfl hl.1 rfl (Nat.le_of_ble_eq_true rfl) dL_law_652) (fun H locs hP hD hS => ?_)
  replace hP := xs_toM hP
  replace hD := xs_toMD hD
  refine lv_aload_n hx hb dL_law_655 rfl (lv_at hl 2 rfl) ?_
  refine xs_calli hS (xs_runV (As := []) (rest := [.int out.1]) C (mX11_turn l em) w_1715 w_1716 w_1717 w_115 w_1718 hd_X11_turn (xsRmA hcs (by decide) (by decide)) hP hD hS lk_X11 rfl hl.1 rfl (Nat.le_of_ble_eq_true rfl) dL_law_656) (fun H locs hP hD hS => ?_)
  replace hP := xs_toK hP
  replace hD := xs_toKD hD
  refine lv_icmp_eq (tgt := 2175) hx hb dL_law_659 (by decide) (fun _ => ?_) (fun q => absurd hor.1 q)
  exact W.widen (Nat.le_add_right _ _) (Nat.le_add_right _ _) (kk hor.2 hP hD hS hl)
end XSLB
