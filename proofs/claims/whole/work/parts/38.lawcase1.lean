section XSLB
variable {p : Program} {l : Launch} {e : Env} {R : Room} {s : State} {m : MethodId} {args : Array Value} {below : List Frame} {meth : Method} {c : Code} {H : Heap} {locs : List Loc} {cells slots mc ms C0 D0 b L nL nM n pc index : Nat} {Q : State → Prop} {xs : Nat → Int32}
variable {cc bb : ByteArray} {ls : Array Slot} {rest st As : List Value} {own : String} {X : xsX} {w : va_W} {y : MethodName} {ret : Option FieldType} {rm : Room} {Qc : Array Value → State → Outcome → State → Prop} {XC : String → State → State → Prop} {S : Nat → xsV} {Rw : va_W}
variable {kIsKept kIsStale hiLatest hiSize scLength scFault scAt scNumber piSegmentsNow enKind enFromX enFromY enToX enToY tiMeetingPairs tiAlongPairs tiSize evSize evCrossings evSegmentsNow grEdges grQueued huSize huBestX huBestY : Int32} {scBytes scTold tiTouching tiLyingAlong evBundle evCrossingOf evEventOf evLeftEvent evRightEvent grDegree grFar grQueue huX huY : Nat → Int32} {enX enY enLower : Int64} {evX evY evLower : Nat → Int64} {mThrown mRemembered mHasImage mIsLaid mEvents mCrossings mEdges mTaped mPoint mEnd mBegin mFaultAt mActs : Int32} {mWorld mImage mDraft mEarlier mOne mTwo mShare mCrossingOf mBundle mEventOf mDegree mFrom mTo mMet mTape mFive mTold mFar mViews mHullX mHullY mEndX mEndY mMeets mMeetsOf : Nat → Int32} {mX mY mD mHeightUp mHeightLow : Int64} {mEventX mEventY mEventD mUpper mLower : Nat → Int64} {ou : Nat → Int64}
set_option maxRecDepth 100000 in
set_option maxHeartbeats 8000000 in
theorem lc_undo {Rl : xsRel} (l : Launch) (hst : l.stackTraces = false) (hp : pc_undo Rl) {i v1 v2 v3 v4 v5 : Int32} (C : xsC p s m c cL_law #[.ref b] RL 8 X) (hX : va_X b L xs s s.heap) (hbz : b < xsZ X) (hbl : b < s.heap.size) (hi1 : vp_in (i + 1) L ∧ xs (i + 1).toNatClampNeg = v1) (hi2 : vp_in (i + 2) L ∧ xs (i + 2).toNatClampNeg = v2) (hi3 : vp_in (i + 3) L ∧ xs (i + 3).toNatClampNeg = v3) (hi4 : vp_in (i + 4) L ∧ xs (i + 4).toNatClampNeg = v4) (hi5 : vp_in (i + 5) L ∧ xs (i + 5).toNatClampNeg = v5) (hcs : xsRmC C0 D0) (hP : va_P (xsD X) vwCl (wK X kIsKept kIsStale hiLatest hiSize scBytes scTold scLength scFault scAt scNumber piSegmentsNow enKind enX enY enLower enFromX enFromY enToX enToY tiTouching tiLyingAlong tiMeetingPairs tiAlongPairs tiSize evX evY evLower evBundle evCrossingOf evEventOf evLeftEvent evRightEvent evSize evCrossings evSegmentsNow grDegree grEdges grFar grQueue grQueued huX huY huSize huBestX huBestY S (xsOc X ou :: wM X mThrown mWorld mImage mDraft mEarlier mRemembered mHasImage mIsLaid mOne mTwo mShare mX mY mD mEventX mEventY mEventD mEvents mCrossingOf mBundle mEventOf mDegree mFrom mTo mCrossings mEdges mMet mUpper mLower mTape mTaped mPoint mEnd mBegin mFaultAt mFive mTold mActs mFar mViews mHullX mHullY mEndX mEndY mHeightUp mHeightLow mMeets mMeetsOf [])) H) (hD : va_D (xsF X) (wK X kIsKept kIsStale hiLatest hiSize scBytes scTold scLength scFault scAt scNumber piSegmentsNow enKind enX enY enLower enFromX enFromY enToX enToY tiTouching tiLyingAlong tiMeetingPairs tiAlongPairs tiSize evX evY evLower evBundle evCrossingOf evEventOf evLeftEvent evRightEvent evSize evCrossings evSegmentsNow grDegree grEdges grFar grQueue grQueued huX huY huSize huBestX huBestY S (xsOc X ou :: wM X mThrown mWorld mImage mDraft mEarlier mRemembered mHasImage mIsLaid mOne mTwo mShare mX mY mD mEventX mEventY mEventD mEvents mCrossingOf mBundle mEventOf mDegree mFrom mTo mCrossings mEdges mMet mUpper mLower mTape mTaped mPoint mEnd mBegin mFaultAt mFive mTold mActs mFar mViews mHullX mHullY mEndX mEndY mHeightUp mHeightLow mMeets mMeetsOf []))) (hS : va_S (xsF X) s.heap H locs) (hl : lv_has ls 8 [(4, .int i), (3, .ref (xsA X 131)), (2, .ref (xsA X 100)), (1, .ref (xsA X 0)), (0, .ref b)]) (hR : Rl kIsKept kIsStale hiLatest hiSize scBytes scTold scLength scFault scAt scNumber piSegmentsNow enKind enX enY enLower enFromX enFromY enToX enToY tiTouching tiLyingAlong tiMeetingPairs tiAlongPairs tiSize evX evY evLower evBundle evCrossingOf evEventOf evLeftEvent evRightEvent evSize evCrossings evSegmentsNow grDegree grEdges grFar grQueue grQueued huX huY huSize huBestX huBestY S mThrown mWorld mImage mDraft mEarlier mRemembered mHasImage mIsLaid mOne mTwo mShare mX mY mD mEventX mEventY mEventD mEvents mCrossingOf mBundle mEventOf mDegree mFrom mTo mCrossings mEdges mMet mUpper mLower mTape mTaped mPoint mEnd mBegin mFaultAt mFive mTold mActs mFar mViews mHullX mHullY mEndX mEndY mHeightUp mHeightLow mMeets mMeetsOf)
    (kk : ∀ {kIsKept kIsStale hiLatest hiSize scLength scFault scAt scNumber piSegmentsNow enKind enFromX enFromY enToX enToY tiMeetingPairs tiAlongPairs tiSize evSize evCrossings evSegmentsNow grEdges grQueued huSize huBestX huBestY : Int32} {scBytes scTold tiTouching tiLyingAlong evBundle evCrossingOf evEventOf evLeftEvent evRightEvent grDegree grFar grQueue huX huY : Nat → Int32} {enX enY enLower : Int64} {evX evY evLower : Nat → Int64} {S : Nat → xsV} {mThrown mRemembered mHasImage mIsLaid mEvents mCrossings mEdges mTaped mPoint mEnd mBegin mFaultAt mActs : Int32} {mWorld mImage mDraft mEarlier mOne mTwo mShare mCrossingOf mBundle mEventOf mDegree mFrom mTo mMet mTape mFive mTold mFar mViews mHullX mHullY mEndX mEndY mMeets mMeetsOf : Nat → Int32} {mX mY mD mHeightUp mHeightLow : Int64} {mEventX mEventY mEventD mUpper mLower : Nat → Int64} {ou : Nat → Int64} {ls : Array Slot} {H : Heap} {locs : List Loc}, Rl kIsKept kIsStale hiLatest hiSize scBytes scTold scLength scFault scAt scNumber piSegmentsNow enKind enX enY enLower enFromX enFromY enToX enToY tiTouching tiLyingAlong tiMeetingPairs tiAlongPairs tiSize evX evY evLower evBundle evCrossingOf evEventOf evLeftEvent evRightEvent evSize evCrossings evSegmentsNow grDegree grEdges grFar grQueue grQueued huX huY huSize huBestX huBestY S mThrown mWorld mImage mDraft mEarlier mRemembered mHasImage mIsLaid mOne mTwo mShare mX mY mD mEventX mEventY mEventD mEvents mCrossingOf mBundle mEventOf mDegree mFrom mTo mCrossings mEdges mMet mUpper mLower mTape mTaped mPoint mEnd mBegin mFaultAt mFive mTold mActs mFar mViews mHullX mHullY mEndX mEndY mHeightUp mHeightLow mMeets mMeetsOf → va_P (xsD X) vwCl (wK X kIsKept kIsStale hiLatest hiSize scBytes scTold scLength scFault scAt scNumber piSegmentsNow enKind enX enY enLower enFromX enFromY enToX enToY tiTouching tiLyingAlong tiMeetingPairs tiAlongPairs tiSize evX evY evLower evBundle evCrossingOf evEventOf evLeftEvent evRightEvent evSize evCrossings evSegmentsNow grDegree grEdges grFar grQueue grQueued huX huY huSize huBestX huBestY S (xsOc X ou :: wM X mThrown mWorld mImage mDraft mEarlier mRemembered mHasImage mIsLaid mOne mTwo mShare mX mY mD mEventX mEventY mEventD mEvents mCrossingOf mBundle mEventOf mDegree mFrom mTo mCrossings mEdges mMet mUpper mLower mTape mTaped mPoint mEnd mBegin mFaultAt mFive mTold mActs mFar mViews mHullX mHullY mEndX mEndY mHeightUp mHeightLow mMeets mMeetsOf [])) H → va_D (xsF X) (wK X kIsKept kIsStale hiLatest hiSize scBytes scTold scLength scFault scAt scNumber piSegmentsNow enKind enX enY enLower enFromX enFromY enToX enToY tiTouching tiLyingAlong tiMeetingPairs tiAlongPairs tiSize evX evY evLower evBundle evCrossingOf evEventOf evLeftEvent evRightEvent evSize evCrossings evSegmentsNow grDegree grEdges grFar grQueue grQueued huX huY huSize huBestX huBestY S (xsOc X ou :: wM X mThrown mWorld mImage mDraft mEarlier mRemembered mHasImage mIsLaid mOne mTwo mShare mX mY mD mEventX mEventY mEventD mEvents mCrossingOf mBundle mEventOf mDegree mFrom mTo mCrossings mEdges mMet mUpper mLower mTape mTaped mPoint mEnd mBegin mFaultAt mFive mTold mActs mFar mViews mHullX mHullY mEndX mEndY mHeightUp mHeightLow mMeets mMeetsOf [])) → va_S (xsF X) s.heap H locs → lv_has ls 8 [(4, .int i), (3, .ref (xsA X 131)), (2, .ref (xsA X 100)), (1, .ref (xsA X 0)), (0, .ref b)] → W p l e room_1 s m #[.ref b] below meth c H locs (C0 + 5) (D0 + 30) Q (F0 m 2175 ls [])) :
    W p l e room_1 s m #[.ref b] below meth c H locs C0 D0 Q (F0 m 664 ls []) := by
  have hx := C.1
  have hb := C.2.1
  obtain ⟨out, mo, ef, em, hor⟩ := hp hR 
  rcases hor with ⟨tt, eo, ea, et, hR⟩ | ⟨n, tt, eo, en, et, hR⟩
  · subst eo
    refine lv_aload_n hx hb dL_law_664 rfl (lv_at hl 3 rfl) ?_
    refine lv_aload_n hx hb dL_law_665 rfl (lv_at hl 1 rfl) ?_
    refine xs_lcalli hS (xs_lrunS (As := [.ref (xsA X 0), .ref (xsA X 131)]) (rest := []) C (mL_undo l hst (xs_eta (S 0)) (hist := fun i => S (4 + i)) (fun _ => rfl) ef (fun n tt h => by cases h)) w_1059 w_1060 w_104 w_1061 hd_L_undo (xsRmL hcs (by decide) (by decide) (by decide) (by decide)) hP hD hS hl.1 rfl (Nat.le_of_ble_eq_true rfl) dL_law_666) (fun r u H locs hq hP hD hS => ?_)
    rcases hq with ⟨tx, e1, e2, e3⟩ | ⟨n, tx, e1, e2, e3⟩
    · cases e1
      subst e3
      subst e2
      refine lv_istore (lv' := [(5, .int 0), (4, .int i), (3, .ref (xsA X 131)), (2, .ref (xsA X 100)), (1, .ref (xsA X 0)), (0, .ref b)]) hx hb dL_law_669 hl (by decide) rfl (fun ls hl => ?_)
      refine lv_aload_n hx hb dL_law_671 rfl (lv_at hl 3 rfl) ?_
      replace hP := xs_toM hP
      replace hD := xs_toMD hD
      refine xs_calli hS (xs_runV (As := []) (rest := []) C (mX11_undo l em) w_1498 w_1499 w_1500 w_115 w_1501 hd_X11_undo (xsRmB hcs (by decide) (by decide) (by decide) (by decide)) hP hD hS lk_X11 rfl hl.1 rfl (Nat.le_of_ble_eq_true rfl) dL_law_672) (fun H locs hP hD hS => ?_)
      refine lv_istore (lv' := [(6, .int mo.1), (5, .int 0), (4, .int i), (3, .ref (xsA X 131)), (2, .ref (xsA X 100)), (1, .ref (xsA X 0)), (0, .ref b)]) hx hb dL_law_675 hl (by decide) rfl (fun ls hl => ?_)
      refine lv_aload_n hx hb dL_law_677 rfl (lv_at hl 4 rfl) ?_
      refine xs_calli hS (xs_runV (As := []) (rest := []) C (mX11_thrown l rfl) w_1343 w_1344 w_1345 w_115 w_1346 hd_X11_thrown (xsRmB hcs (by decide) (by decide) (by decide) (by decide)) hP hD hS lk_X11 rfl hl.1 rfl (Nat.le_of_ble_eq_true rfl) dL_law_678) (fun H locs hP hD hS => ?_)
      replace hP := xs_toK hP
      replace hD := xs_toKD hD
      refine lv_iload hx hb dL_law_681 (lv_at hl 1 rfl) ?_
      refine lv_icmp_eq (tgt := 688) hx hb dL_law_683 (by decide) (fun _ => ?_) (fun q => absurd et q)
      refine lv_iload hx hb dL_law_688 (lv_at hl 1 rfl) ?_
      refine lv_if_ne (tgt := 705) hx hb dL_law_690 (by decide) (fun q => absurd rfl q) (fun _ => ?_)
      refine lv_aload_n hx hb dL_law_693 rfl (lv_at hl 3 rfl) ?_
      refine lv_iconst (v := (0 : Int32)) hx hb dL_law_694 (by decide) ?_
      refine xs_lald C hP (q0 := 99) rfl (vp_in_nI (n := 0) (by decide) (by decide)) dL_law_695 ?_
      refine lv_iload hx hb dL_law_696 (lv_at hl 0 rfl) ?_
      refine lv_i2l hx hb dL_law_698 rfl ?_
      refine xs_lcmp_eq (tgt := 705) C dL_law_699 dL_law_700 (by decide) (fun _ => ?_) (fun q => absurd (xs_ou0 (congrArg Int32.toInt64 ea)) q)
      refine lv_goto (tgt := 2175) hx hb dL_law_705 (by decide) ?_
      exact W.widen (Nat.add_le_add_left (by decide) _) (Nat.add_le_add_left (by decide) _) (kk hR hP hD hS (lv_sub hl [2, 3, 4, 5, 6] rfl))
    · cases e1
  · subst eo
    refine lv_aload_n hx hb dL_law_664 rfl (lv_at hl 3 rfl) ?_
    refine lv_aload_n hx hb dL_law_665 rfl (lv_at hl 1 rfl) ?_
    refine xs_lcalli hS (xs_lrunS (As := [.ref (xsA X 0), .ref (xsA X 131)]) (rest := []) C (mL_undo l hst (xs_eta (S 0)) (hist := fun i => S (4 + i)) (fun _ => rfl) ef (fun n2 t2 h => by cases h; exact en)) w_1059 w_1060 w_104 w_1061 hd_L_undo (xsRmL hcs (by decide) (by decide) (by decide) (by decide)) hP hD hS hl.1 rfl (Nat.le_of_ble_eq_true rfl) dL_law_666) (fun r u H locs hq hP hD hS => ?_)
    rcases hq with ⟨tx, e1, e2, e3⟩ | ⟨n2, tx, e1, e2, e3⟩
    · cases e1
    · cases e1
      subst e3
      have ekn : ¬ r = 0 := by rw [e2]; rw [en]; decide
      replace et := et.trans e2.symm
      refine lv_istore (lv' := [(5, .int r), (4, .int i), (3, .ref (xsA X 131)), (2, .ref (xsA X 100)), (1, .ref (xsA X 0)), (0, .ref b)]) hx hb dL_law_669 hl (by decide) rfl (fun ls hl => ?_)
      refine lv_aload_n hx hb dL_law_671 rfl (lv_at hl 3 rfl) ?_
      replace hP := xs_toM hP
      replace hD := xs_toMD hD
      refine xs_calli hS (xs_runV (As := []) (rest := []) C (mX11_undo l em) w_1498 w_1499 w_1500 w_115 w_1501 hd_X11_undo (xsRmB hcs (by decide) (by decide) (by decide) (by decide)) hP hD hS lk_X11 rfl hl.1 rfl (Nat.le_of_ble_eq_true rfl) dL_law_672) (fun H locs hP hD hS => ?_)
      refine lv_istore (lv' := [(6, .int mo.1), (5, .int r), (4, .int i), (3, .ref (xsA X 131)), (2, .ref (xsA X 100)), (1, .ref (xsA X 0)), (0, .ref b)]) hx hb dL_law_675 hl (by decide) rfl (fun ls hl => ?_)
      refine lv_aload_n hx hb dL_law_677 rfl (lv_at hl 4 rfl) ?_
      refine xs_calli hS (xs_runV (As := []) (rest := []) C (mX11_thrown l rfl) w_1343 w_1344 w_1345 w_115 w_1346 hd_X11_thrown (xsRmB hcs (by decide) (by decide) (by decide) (by decide)) hP hD hS lk_X11 rfl hl.1 rfl (Nat.le_of_ble_eq_true rfl) dL_law_678) (fun H locs hP hD hS => ?_)
      replace hP := xs_toK hP
      replace hD := xs_toKD hD
      refine lv_iload hx hb dL_law_681 (lv_at hl 1 rfl) ?_
      refine lv_icmp_eq (tgt := 688) hx hb dL_law_683 (by decide) (fun _ => ?_) (fun q => absurd et q)
      refine lv_iload hx hb dL_law_688 (lv_at hl 1 rfl) ?_
      refine lv_if_ne (tgt := 705) hx hb dL_law_690 (by decide) (fun _ => ?_) (fun q => absurd q (ekn))
      refine lv_goto (tgt := 2175) hx hb dL_law_705 (by decide) ?_
      exact W.widen (Nat.add_le_add_left (by decide) _) (Nat.add_le_add_left (by decide) _) (kk hR hP hD hS (lv_sub hl [2, 3, 4, 5, 6] rfl))
set_option maxRecDepth 100000 in
set_option maxHeartbeats 8000000 in
theorem lc_segment {Rl : xsRel} (l : Launch) (hst : l.stackTraces = false) (hp : pc_segment Rl) {i v1 v2 v3 v4 v5 : Int32} (C : xsC p s m c cL_law #[.ref b] RL 8 X) (hX : va_X b L xs s s.heap) (hbz : b < xsZ X) (hbl : b < s.heap.size) (hi1 : vp_in (i + 1) L ∧ xs (i + 1).toNatClampNeg = v1) (hi2 : vp_in (i + 2) L ∧ xs (i + 2).toNatClampNeg = v2) (hi3 : vp_in (i + 3) L ∧ xs (i + 3).toNatClampNeg = v3) (hi4 : vp_in (i + 4) L ∧ xs (i + 4).toNatClampNeg = v4) (hi5 : vp_in (i + 5) L ∧ xs (i + 5).toNatClampNeg = v5) (hcs : xsRmC C0 D0) (hP : va_P (xsD X) vwCl (wK X kIsKept kIsStale hiLatest hiSize scBytes scTold scLength scFault scAt scNumber piSegmentsNow enKind enX enY enLower enFromX enFromY enToX enToY tiTouching tiLyingAlong tiMeetingPairs tiAlongPairs tiSize evX evY evLower evBundle evCrossingOf evEventOf evLeftEvent evRightEvent evSize evCrossings evSegmentsNow grDegree grEdges grFar grQueue grQueued huX huY huSize huBestX huBestY S (xsOc X ou :: wM X mThrown mWorld mImage mDraft mEarlier mRemembered mHasImage mIsLaid mOne mTwo mShare mX mY mD mEventX mEventY mEventD mEvents mCrossingOf mBundle mEventOf mDegree mFrom mTo mCrossings mEdges mMet mUpper mLower mTape mTaped mPoint mEnd mBegin mFaultAt mFive mTold mActs mFar mViews mHullX mHullY mEndX mEndY mHeightUp mHeightLow mMeets mMeetsOf [])) H) (hD : va_D (xsF X) (wK X kIsKept kIsStale hiLatest hiSize scBytes scTold scLength scFault scAt scNumber piSegmentsNow enKind enX enY enLower enFromX enFromY enToX enToY tiTouching tiLyingAlong tiMeetingPairs tiAlongPairs tiSize evX evY evLower evBundle evCrossingOf evEventOf evLeftEvent evRightEvent evSize evCrossings evSegmentsNow grDegree grEdges grFar grQueue grQueued huX huY huSize huBestX huBestY S (xsOc X ou :: wM X mThrown mWorld mImage mDraft mEarlier mRemembered mHasImage mIsLaid mOne mTwo mShare mX mY mD mEventX mEventY mEventD mEvents mCrossingOf mBundle mEventOf mDegree mFrom mTo mCrossings mEdges mMet mUpper mLower mTape mTaped mPoint mEnd mBegin mFaultAt mFive mTold mActs mFar mViews mHullX mHullY mEndX mEndY mHeightUp mHeightLow mMeets mMeetsOf []))) (hS : va_S (xsF X) s.heap H locs) (hl : lv_has ls 8 [(4, .int i), (3, .ref (xsA X 131)), (2, .ref (xsA X 100)), (1, .ref (xsA X 0)), (0, .ref b)]) (hR : Rl kIsKept kIsStale hiLatest hiSize scBytes scTold scLength scFault scAt scNumber piSegmentsNow enKind enX enY enLower enFromX enFromY enToX enToY tiTouching tiLyingAlong tiMeetingPairs tiAlongPairs tiSize evX evY evLower evBundle evCrossingOf evEventOf evLeftEvent evRightEvent evSize evCrossings evSegmentsNow grDegree grEdges grFar grQueue grQueued huX huY huSize huBestX huBestY S mThrown mWorld mImage mDraft mEarlier mRemembered mHasImage mIsLaid mOne mTwo mShare mX mY mD mEventX mEventY mEventD mEvents mCrossingOf mBundle mEventOf mDegree mFrom mTo mCrossings mEdges mMet mUpper mLower mTape mTaped mPoint mEnd mBegin mFaultAt mFive mTold mActs mFar mViews mHullX mHullY mEndX mEndY mHeightUp mHeightLow mMeets mMeetsOf)
    (kk : ∀ {kIsKept kIsStale hiLatest hiSize scLength scFault scAt scNumber piSegmentsNow enKind enFromX enFromY enToX enToY tiMeetingPairs tiAlongPairs tiSize evSize evCrossings evSegmentsNow grEdges grQueued huSize huBestX huBestY : Int32} {scBytes scTold tiTouching tiLyingAlong evBundle evCrossingOf evEventOf evLeftEvent evRightEvent grDegree grFar grQueue huX huY : Nat → Int32} {enX enY enLower : Int64} {evX evY evLower : Nat → Int64} {S : Nat → xsV} {mThrown mRemembered mHasImage mIsLaid mEvents mCrossings mEdges mTaped mPoint mEnd mBegin mFaultAt mActs : Int32} {mWorld mImage mDraft mEarlier mOne mTwo mShare mCrossingOf mBundle mEventOf mDegree mFrom mTo mMet mTape mFive mTold mFar mViews mHullX mHullY mEndX mEndY mMeets mMeetsOf : Nat → Int32} {mX mY mD mHeightUp mHeightLow : Int64} {mEventX mEventY mEventD mUpper mLower : Nat → Int64} {ou : Nat → Int64} {ls : Array Slot} {H : Heap} {locs : List Loc}, Rl kIsKept kIsStale hiLatest hiSize scBytes scTold scLength scFault scAt scNumber piSegmentsNow enKind enX enY enLower enFromX enFromY enToX enToY tiTouching tiLyingAlong tiMeetingPairs tiAlongPairs tiSize evX evY evLower evBundle evCrossingOf evEventOf evLeftEvent evRightEvent evSize evCrossings evSegmentsNow grDegree grEdges grFar grQueue grQueued huX huY huSize huBestX huBestY S mThrown mWorld mImage mDraft mEarlier mRemembered mHasImage mIsLaid mOne mTwo mShare mX mY mD mEventX mEventY mEventD mEvents mCrossingOf mBundle mEventOf mDegree mFrom mTo mCrossings mEdges mMet mUpper mLower mTape mTaped mPoint mEnd mBegin mFaultAt mFive mTold mActs mFar mViews mHullX mHullY mEndX mEndY mHeightUp mHeightLow mMeets mMeetsOf → va_P (xsD X) vwCl (wK X kIsKept kIsStale hiLatest hiSize scBytes scTold scLength scFault scAt scNumber piSegmentsNow enKind enX enY enLower enFromX enFromY enToX enToY tiTouching tiLyingAlong tiMeetingPairs tiAlongPairs tiSize evX evY evLower evBundle evCrossingOf evEventOf evLeftEvent evRightEvent evSize evCrossings evSegmentsNow grDegree grEdges grFar grQueue grQueued huX huY huSize huBestX huBestY S (xsOc X ou :: wM X mThrown mWorld mImage mDraft mEarlier mRemembered mHasImage mIsLaid mOne mTwo mShare mX mY mD mEventX mEventY mEventD mEvents mCrossingOf mBundle mEventOf mDegree mFrom mTo mCrossings mEdges mMet mUpper mLower mTape mTaped mPoint mEnd mBegin mFaultAt mFive mTold mActs mFar mViews mHullX mHullY mEndX mEndY mHeightUp mHeightLow mMeets mMeetsOf [])) H → va_D (xsF X) (wK X kIsKept kIsStale hiLatest hiSize scBytes scTold scLength scFault scAt scNumber piSegmentsNow enKind enX enY enLower enFromX enFromY enToX enToY tiTouching tiLyingAlong tiMeetingPairs tiAlongPairs tiSize evX evY evLower evBundle evCrossingOf evEventOf evLeftEvent evRightEvent evSize evCrossings evSegmentsNow grDegree grEdges grFar grQueue grQueued huX huY huSize huBestX huBestY S (xsOc X ou :: wM X mThrown mWorld mImage mDraft mEarlier mRemembered mHasImage mIsLaid mOne mTwo mShare mX mY mD mEventX mEventY mEventD mEvents mCrossingOf mBundle mEventOf mDegree mFrom mTo mCrossings mEdges mMet mUpper mLower mTape mTaped mPoint mEnd mBegin mFaultAt mFive mTold mActs mFar mViews mHullX mHullY mEndX mEndY mHeightUp mHeightLow mMeets mMeetsOf [])) → va_S (xsF X) s.heap H locs → lv_has ls 8 [(4, .int i), (3, .ref (xsA X 131)), (2, .ref (xsA X 100)), (1, .ref (xsA X 0)), (0, .ref b)] → W p l e room_1 s m #[.ref b] below meth c H locs (C0 + 5) (D0 + 30) Q (F0 m 2175 ls [])) :
    W p l e room_1 s m #[.ref b] below meth c H locs C0 D0 Q (F0 m 708 ls []) := by
  have hx := C.1
  have hb := C.2.1
  obtain ⟨out, mo, ef, em, hor⟩ := hp hR v1 v2
  rcases hor with ⟨tt, eo, ea, et, hR⟩ | ⟨n, tt, eo, en, et, hR⟩
  · subst eo
    refine lv_aload_n hx hb dL_law_708 rfl (lv_at hl 3 rfl) ?_
    refine lv_aload_n hx hb dL_law_709 rfl (lv_at hl 4 rfl) ?_
    refine lv_iload hx hb dL_law_710 (lv_at hl 0 rfl) ?_
    refine lv_iconst (v := (1 : Int32)) hx hb dL_law_712 (by decide) ?_
    refine lv_iadd hx hb dL_law_713 ?_
    refine xs_lld C hX hbz hbl hS hi1 dL_law_714 ?_
    refine lv_aload_n hx hb dL_law_715 rfl (lv_at hl 4 rfl) ?_
    refine lv_iload hx hb dL_law_716 (lv_at hl 0 rfl) ?_
    refine lv_iconst (v := (2 : Int32)) hx hb dL_law_718 (by decide) ?_
    refine lv_iadd hx hb dL_law_719 ?_
    refine xs_lld C hX hbz hbl hS hi2 dL_law_720 ?_
    refine lv_aload_n hx hb dL_law_721 rfl (lv_at hl 1 rfl) ?_
    refine xs_lcalli hS (xs_lrunS (As := [.ref (xsA X 0), .int v1, .int v2, .ref (xsA X 131)]) (rest := []) C (mL_segment l hst (xs_eta (S 0)) ef (fun n tt h => by cases h)) w_1071 w_1072 w_104 w_1073 hd_L_segment (xsRmL hcs (by decide) (by decide) (by decide) (by decide)) hP hD hS hl.1 rfl (Nat.le_of_ble_eq_true rfl) dL_law_722) (fun r u H locs hq hP hD hS => ?_)
    rcases hq with ⟨tx, e1, e2, e3⟩ | ⟨n, tx, e1, e2, e3⟩
    · cases e1
      subst e3
      subst e2
      refine lv_istore (lv' := [(5, .int 0), (4, .int i), (3, .ref (xsA X 131)), (2, .ref (xsA X 100)), (1, .ref (xsA X 0)), (0, .ref b)]) hx hb dL_law_725 hl (by decide) rfl (fun ls hl => ?_)
      refine lv_aload_n hx hb dL_law_727 rfl (lv_at hl 3 rfl) ?_
      refine lv_aload_n hx hb dL_law_728 rfl (lv_at hl 5 rfl) ?_
      refine lv_iload hx hb dL_law_729 (lv_at hl 1 rfl) ?_
      refine lv_iconst (v := (1 : Int32)) hx hb dL_law_731 (by decide) ?_
      refine lv_iadd hx hb dL_law_732 ?_
      refine xs_lld C hX hbz hbl hS hi1 dL_law_733 ?_
      refine lv_aload_n hx hb dL_law_734 rfl (lv_at hl 5 rfl) ?_
      refine lv_iload hx hb dL_law_735 (lv_at hl 1 rfl) ?_
      refine lv_iconst (v := (2 : Int32)) hx hb dL_law_737 (by decide) ?_
      refine lv_iadd hx hb dL_law_738 ?_
      refine xs_lld C hX hbz hbl hS hi2 dL_law_739 ?_
      replace hP := xs_toM hP
      replace hD := xs_toMD hD
      refine xs_calli hS (xs_runV (As := [.int v1, .int v2]) (rest := []) C (mX11_segment l em) w_1719 w_1720 w_1721 w_115 w_1722 hd_X11_segment (xsRmB hcs (by decide) (by decide) (by decide) (by decide)) hP hD hS lk_X11 rfl hl.1 rfl (Nat.le_of_ble_eq_true rfl) dL_law_740) (fun H locs hP hD hS => ?_)
      refine lv_istore (lv' := [(6, .int mo.1), (5, .int 0), (4, .int i), (3, .ref (xsA X 131)), (2, .ref (xsA X 100)), (1, .ref (xsA X 0)), (0, .ref b)]) hx hb dL_law_743 hl (by decide) rfl (fun ls hl => ?_)
      refine lv_aload_n hx hb dL_law_745 rfl (lv_at hl 4 rfl) ?_
      refine xs_calli hS (xs_runV (As := []) (rest := []) C (mX11_thrown l rfl) w_1343 w_1344 w_1345 w_115 w_1346 hd_X11_thrown (xsRmB hcs (by decide) (by decide) (by decide) (by decide)) hP hD hS lk_X11 rfl hl.1 rfl (Nat.le_of_ble_eq_true rfl) dL_law_746) (fun H locs hP hD hS => ?_)
      replace hP := xs_toK hP
      replace hD := xs_toKD hD
      refine lv_iload hx hb dL_law_749 (lv_at hl 1 rfl) ?_
      refine lv_icmp_eq (tgt := 756) hx hb dL_law_751 (by decide) (fun _ => ?_) (fun q => absurd et q)
      refine lv_iload hx hb dL_law_756 (lv_at hl 1 rfl) ?_
      refine lv_if_ne (tgt := 773) hx hb dL_law_758 (by decide) (fun q => absurd rfl q) (fun _ => ?_)
      refine lv_aload_n hx hb dL_law_761 rfl (lv_at hl 3 rfl) ?_
      refine lv_iconst (v := (0 : Int32)) hx hb dL_law_762 (by decide) ?_
      refine xs_lald C hP (q0 := 99) rfl (vp_in_nI (n := 0) (by decide) (by decide)) dL_law_763 ?_
      refine lv_iload hx hb dL_law_764 (lv_at hl 0 rfl) ?_
      refine lv_i2l hx hb dL_law_766 rfl ?_
      refine xs_lcmp_eq (tgt := 773) C dL_law_767 dL_law_768 (by decide) (fun _ => ?_) (fun q => absurd (xs_ou0 (congrArg Int32.toInt64 ea)) q)
      refine lv_goto (tgt := 2175) hx hb dL_law_773 (by decide) ?_
      exact W.widen (Nat.add_le_add_left (by decide) _) (Nat.add_le_add_left (by decide) _) (kk hR hP hD hS (lv_sub hl [2, 3, 4, 5, 6] rfl))
    · cases e1
  · subst eo
    refine lv_aload_n hx hb dL_law_708 rfl (lv_at hl 3 rfl) ?_
    refine lv_aload_n hx hb dL_law_709 rfl (lv_at hl 4 rfl) ?_
    refine lv_iload hx hb dL_law_710 (lv_at hl 0 rfl) ?_
    refine lv_iconst (v := (1 : Int32)) hx hb dL_law_712 (by decide) ?_
    refine lv_iadd hx hb dL_law_713 ?_
    refine xs_lld C hX hbz hbl hS hi1 dL_law_714 ?_
    refine lv_aload_n hx hb dL_law_715 rfl (lv_at hl 4 rfl) ?_
    refine lv_iload hx hb dL_law_716 (lv_at hl 0 rfl) ?_
    refine lv_iconst (v := (2 : Int32)) hx hb dL_law_718 (by decide) ?_
    refine lv_iadd hx hb dL_law_719 ?_
    refine xs_lld C hX hbz hbl hS hi2 dL_law_720 ?_
    refine lv_aload_n hx hb dL_law_721 rfl (lv_at hl 1 rfl) ?_
    refine xs_lcalli hS (xs_lrunS (As := [.ref (xsA X 0), .int v1, .int v2, .ref (xsA X 131)]) (rest := []) C (mL_segment l hst (xs_eta (S 0)) ef (fun n2 t2 h => by cases h; exact en)) w_1071 w_1072 w_104 w_1073 hd_L_segment (xsRmL hcs (by decide) (by decide) (by decide) (by decide)) hP hD hS hl.1 rfl (Nat.le_of_ble_eq_true rfl) dL_law_722) (fun r u H locs hq hP hD hS => ?_)
    rcases hq with ⟨tx, e1, e2, e3⟩ | ⟨n2, tx, e1, e2, e3⟩
    · cases e1
    · cases e1
      subst e3
      have ekn : ¬ r = 0 := by rw [e2]; rcases en with rfl | rfl <;> decide
      replace et := et.trans e2.symm
      refine lv_istore (lv' := [(5, .int r), (4, .int i), (3, .ref (xsA X 131)), (2, .ref (xsA X 100)), (1, .ref (xsA X 0)), (0, .ref b)]) hx hb dL_law_725 hl (by decide) rfl (fun ls hl => ?_)
      refine lv_aload_n hx hb dL_law_727 rfl (lv_at hl 3 rfl) ?_
      refine lv_aload_n hx hb dL_law_728 rfl (lv_at hl 5 rfl) ?_
      refine lv_iload hx hb dL_law_729 (lv_at hl 1 rfl) ?_
      refine lv_iconst (v := (1 : Int32)) hx hb dL_law_731 (by decide) ?_
      refine lv_iadd hx hb dL_law_732 ?_
      refine xs_lld C hX hbz hbl hS hi1 dL_law_733 ?_
      refine lv_aload_n hx hb dL_law_734 rfl (lv_at hl 5 rfl) ?_
      refine lv_iload hx hb dL_law_735 (lv_at hl 1 rfl) ?_
      refine lv_iconst (v := (2 : Int32)) hx hb dL_law_737 (by decide) ?_
      refine lv_iadd hx hb dL_law_738 ?_
      refine xs_lld C hX hbz hbl hS hi2 dL_law_739 ?_
      replace hP := xs_toM hP
      replace hD := xs_toMD hD
      refine xs_calli hS (xs_runV (As := [.int v1, .int v2]) (rest := []) C (mX11_segment l em) w_1719 w_1720 w_1721 w_115 w_1722 hd_X11_segment (xsRmB hcs (by decide) (by decide) (by decide) (by decide)) hP hD hS lk_X11 rfl hl.1 rfl (Nat.le_of_ble_eq_true rfl) dL_law_740) (fun H locs hP hD hS => ?_)
      refine lv_istore (lv' := [(6, .int mo.1), (5, .int r), (4, .int i), (3, .ref (xsA X 131)), (2, .ref (xsA X 100)), (1, .ref (xsA X 0)), (0, .ref b)]) hx hb dL_law_743 hl (by decide) rfl (fun ls hl => ?_)
      refine lv_aload_n hx hb dL_law_745 rfl (lv_at hl 4 rfl) ?_
      refine xs_calli hS (xs_runV (As := []) (rest := []) C (mX11_thrown l rfl) w_1343 w_1344 w_1345 w_115 w_1346 hd_X11_thrown (xsRmB hcs (by decide) (by decide) (by decide) (by decide)) hP hD hS lk_X11 rfl hl.1 rfl (Nat.le_of_ble_eq_true rfl) dL_law_746) (fun H locs hP hD hS => ?_)
      replace hP := xs_toK hP
      replace hD := xs_toKD hD
      refine lv_iload hx hb dL_law_749 (lv_at hl 1 rfl) ?_
      refine lv_icmp_eq (tgt := 756) hx hb dL_law_751 (by decide) (fun _ => ?_) (fun q => absurd et q)
      refine lv_iload hx hb dL_law_756 (lv_at hl 1 rfl) ?_
      refine lv_if_ne (tgt := 773) hx hb dL_law_758 (by decide) (fun _ => ?_) (fun q => absurd q (ekn))
      refine lv_goto (tgt := 2175) hx hb dL_law_773 (by decide) ?_
      exact W.widen (Nat.add_le_add_left (by decide) _) (Nat.add_le_add_left (by decide) _) (kk hR hP hD hS (lv_sub hl [2, 3, 4, 5, 6] rfl))
set_option maxRecDepth 100000 in
set_option maxHeartbeats 8000000 in
theorem lc_how {Rl : xsRel} (l : Launch) (hst : l.stackTraces = false) (hp : pc_how Rl) {i v1 v2 v3 v4 v5 : Int32} (C : xsC p s m c cL_law #[.ref b] RL 8 X) (hX : va_X b L xs s s.heap) (hbz : b < xsZ X) (hbl : b < s.heap.size) (hi1 : vp_in (i + 1) L ∧ xs (i + 1).toNatClampNeg = v1) (hi2 : vp_in (i + 2) L ∧ xs (i + 2).toNatClampNeg = v2) (hi3 : vp_in (i + 3) L ∧ xs (i + 3).toNatClampNeg = v3) (hi4 : vp_in (i + 4) L ∧ xs (i + 4).toNatClampNeg = v4) (hi5 : vp_in (i + 5) L ∧ xs (i + 5).toNatClampNeg = v5) (hcs : xsRmC C0 D0) (hP : va_P (xsD X) vwCl (wK X kIsKept kIsStale hiLatest hiSize scBytes scTold scLength scFault scAt scNumber piSegmentsNow enKind enX enY enLower enFromX enFromY enToX enToY tiTouching tiLyingAlong tiMeetingPairs tiAlongPairs tiSize evX evY evLower evBundle evCrossingOf evEventOf evLeftEvent evRightEvent evSize evCrossings evSegmentsNow grDegree grEdges grFar grQueue grQueued huX huY huSize huBestX huBestY S (xsOc X ou :: wM X mThrown mWorld mImage mDraft mEarlier mRemembered mHasImage mIsLaid mOne mTwo mShare mX mY mD mEventX mEventY mEventD mEvents mCrossingOf mBundle mEventOf mDegree mFrom mTo mCrossings mEdges mMet mUpper mLower mTape mTaped mPoint mEnd mBegin mFaultAt mFive mTold mActs mFar mViews mHullX mHullY mEndX mEndY mHeightUp mHeightLow mMeets mMeetsOf [])) H) (hD : va_D (xsF X) (wK X kIsKept kIsStale hiLatest hiSize scBytes scTold scLength scFault scAt scNumber piSegmentsNow enKind enX enY enLower enFromX enFromY enToX enToY tiTouching tiLyingAlong tiMeetingPairs tiAlongPairs tiSize evX evY evLower evBundle evCrossingOf evEventOf evLeftEvent evRightEvent evSize evCrossings evSegmentsNow grDegree grEdges grFar grQueue grQueued huX huY huSize huBestX huBestY S (xsOc X ou :: wM X mThrown mWorld mImage mDraft mEarlier mRemembered mHasImage mIsLaid mOne mTwo mShare mX mY mD mEventX mEventY mEventD mEvents mCrossingOf mBundle mEventOf mDegree mFrom mTo mCrossings mEdges mMet mUpper mLower mTape mTaped mPoint mEnd mBegin mFaultAt mFive mTold mActs mFar mViews mHullX mHullY mEndX mEndY mHeightUp mHeightLow mMeets mMeetsOf []))) (hS : va_S (xsF X) s.heap H locs) (hl : lv_has ls 8 [(4, .int i), (3, .ref (xsA X 131)), (2, .ref (xsA X 100)), (1, .ref (xsA X 0)), (0, .ref b)]) (hR : Rl kIsKept kIsStale hiLatest hiSize scBytes scTold scLength scFault scAt scNumber piSegmentsNow enKind enX enY enLower enFromX enFromY enToX enToY tiTouching tiLyingAlong tiMeetingPairs tiAlongPairs tiSize evX evY evLower evBundle evCrossingOf evEventOf evLeftEvent evRightEvent evSize evCrossings evSegmentsNow grDegree grEdges grFar grQueue grQueued huX huY huSize huBestX huBestY S mThrown mWorld mImage mDraft mEarlier mRemembered mHasImage mIsLaid mOne mTwo mShare mX mY mD mEventX mEventY mEventD mEvents mCrossingOf mBundle mEventOf mDegree mFrom mTo mCrossings mEdges mMet mUpper mLower mTape mTaped mPoint mEnd mBegin mFaultAt mFive mTold mActs mFar mViews mHullX mHullY mEndX mEndY mHeightUp mHeightLow mMeets mMeetsOf)
    (kk : ∀ {kIsKept kIsStale hiLatest hiSize scLength scFault scAt scNumber piSegmentsNow enKind enFromX enFromY enToX enToY tiMeetingPairs tiAlongPairs tiSize evSize evCrossings evSegmentsNow grEdges grQueued huSize huBestX huBestY : Int32} {scBytes scTold tiTouching tiLyingAlong evBundle evCrossingOf evEventOf evLeftEvent evRightEvent grDegree grFar grQueue huX huY : Nat → Int32} {enX enY enLower : Int64} {evX evY evLower : Nat → Int64} {S : Nat → xsV} {mThrown mRemembered mHasImage mIsLaid mEvents mCrossings mEdges mTaped mPoint mEnd mBegin mFaultAt mActs : Int32} {mWorld mImage mDraft mEarlier mOne mTwo mShare mCrossingOf mBundle mEventOf mDegree mFrom mTo mMet mTape mFive mTold mFar mViews mHullX mHullY mEndX mEndY mMeets mMeetsOf : Nat → Int32} {mX mY mD mHeightUp mHeightLow : Int64} {mEventX mEventY mEventD mUpper mLower : Nat → Int64} {ou : Nat → Int64} {ls : Array Slot} {H : Heap} {locs : List Loc}, Rl kIsKept kIsStale hiLatest hiSize scBytes scTold scLength scFault scAt scNumber piSegmentsNow enKind enX enY enLower enFromX enFromY enToX enToY tiTouching tiLyingAlong tiMeetingPairs tiAlongPairs tiSize evX evY evLower evBundle evCrossingOf evEventOf evLeftEvent evRightEvent evSize evCrossings evSegmentsNow grDegree grEdges grFar grQueue grQueued huX huY huSize huBestX huBestY S mThrown mWorld mImage mDraft mEarlier mRemembered mHasImage mIsLaid mOne mTwo mShare mX mY mD mEventX mEventY mEventD mEvents mCrossingOf mBundle mEventOf mDegree mFrom mTo mCrossings mEdges mMet mUpper mLower mTape mTaped mPoint mEnd mBegin mFaultAt mFive mTold mActs mFar mViews mHullX mHullY mEndX mEndY mHeightUp mHeightLow mMeets mMeetsOf → va_P (xsD X) vwCl (wK X kIsKept kIsStale hiLatest hiSize scBytes scTold scLength scFault scAt scNumber piSegmentsNow enKind enX enY enLower enFromX enFromY enToX enToY tiTouching tiLyingAlong tiMeetingPairs tiAlongPairs tiSize evX evY evLower evBundle evCrossingOf evEventOf evLeftEvent evRightEvent evSize evCrossings evSegmentsNow grDegree grEdges grFar grQueue grQueued huX huY huSize huBestX huBestY S (xsOc X ou :: wM X mThrown mWorld mImage mDraft mEarlier mRemembered mHasImage mIsLaid mOne mTwo mShare mX mY mD mEventX mEventY mEventD mEvents mCrossingOf mBundle mEventOf mDegree mFrom mTo mCrossings mEdges mMet mUpper mLower mTape mTaped mPoint mEnd mBegin mFaultAt mFive mTold mActs mFar mViews mHullX mHullY mEndX mEndY mHeightUp mHeightLow mMeets mMeetsOf [])) H → va_D (xsF X) (wK X kIsKept kIsStale hiLatest hiSize scBytes scTold scLength scFault scAt scNumber piSegmentsNow enKind enX enY enLower enFromX enFromY enToX enToY tiTouching tiLyingAlong tiMeetingPairs tiAlongPairs tiSize evX evY evLower evBundle evCrossingOf evEventOf evLeftEvent evRightEvent evSize evCrossings evSegmentsNow grDegree grEdges grFar grQueue grQueued huX huY huSize huBestX huBestY S (xsOc X ou :: wM X mThrown mWorld mImage mDraft mEarlier mRemembered mHasImage mIsLaid mOne mTwo mShare mX mY mD mEventX mEventY mEventD mEvents mCrossingOf mBundle mEventOf mDegree mFrom mTo mCrossings mEdges mMet mUpper mLower mTape mTaped mPoint mEnd mBegin mFaultAt mFive mTold mActs mFar mViews mHullX mHullY mEndX mEndY mHeightUp mHeightLow mMeets mMeetsOf [])) → va_S (xsF X) s.heap H locs → lv_has ls 8 [(4, .int i), (3, .ref (xsA X 131)), (2, .ref (xsA X 100)), (1, .ref (xsA X 0)), (0, .ref b)] → W p l e room_1 s m #[.ref b] below meth c H locs (C0 + 5) (D0 + 30) Q (F0 m 2175 ls [])) :
    W p l e room_1 s m #[.ref b] below meth c H locs C0 D0 Q (F0 m 776 ls []) := by
  have hx := C.1
  have hb := C.2.1
  obtain ⟨out, mo, ef, em, hor⟩ := hp hR v1 v2
  rcases hor with ⟨tt, eo, ea, et, hR⟩ | ⟨n, tt, eo, en, et, hR⟩
  · subst eo
    refine lv_aload_n hx hb dL_law_776 rfl (lv_at hl 3 rfl) ?_
    refine lv_aload_n hx hb dL_law_777 rfl (lv_at hl 4 rfl) ?_
    refine lv_iload hx hb dL_law_778 (lv_at hl 0 rfl) ?_
    refine lv_iconst (v := (1 : Int32)) hx hb dL_law_780 (by decide) ?_
    refine lv_iadd hx hb dL_law_781 ?_
    refine xs_lld C hX hbz hbl hS hi1 dL_law_782 ?_
    refine lv_aload_n hx hb dL_law_783 rfl (lv_at hl 4 rfl) ?_
    refine lv_iload hx hb dL_law_784 (lv_at hl 0 rfl) ?_
    refine lv_iconst (v := (2 : Int32)) hx hb dL_law_786 (by decide) ?_
    refine lv_iadd hx hb dL_law_787 ?_
    refine xs_lld C hX hbz hbl hS hi2 dL_law_788 ?_
    refine lv_aload_n hx hb dL_law_789 rfl (lv_at hl 1 rfl) ?_
    refine xs_lcalli hS (xs_lrunS (As := [.ref (xsA X 0), .int v1, .int v2, .ref (xsA X 131)]) (rest := []) C (mL_how l hst (xs_eta (S 0)) ef (fun n tt h => by cases h)) w_1111 w_1112 w_104 w_1113 hd_L_how (xsRmL hcs (by decide) (by decide) (by decide) (by decide)) hP hD hS hl.1 rfl (Nat.le_of_ble_eq_true rfl) dL_law_790) (fun r u H locs hq hP hD hS => ?_)
    rcases hq with ⟨tx, e1, e2, e3⟩ | ⟨n, tx, e1, e2, e3⟩
    · cases e1
      subst e3
      subst e2
      refine lv_istore (lv' := [(5, .int 0), (4, .int i), (3, .ref (xsA X 131)), (2, .ref (xsA X 100)), (1, .ref (xsA X 0)), (0, .ref b)]) hx hb dL_law_793 hl (by decide) rfl (fun ls hl => ?_)
      refine lv_aload_n hx hb dL_law_795 rfl (lv_at hl 3 rfl) ?_
      refine lv_aload_n hx hb dL_law_796 rfl (lv_at hl 5 rfl) ?_
      refine lv_iload hx hb dL_law_797 (lv_at hl 1 rfl) ?_
      refine lv_iconst (v := (1 : Int32)) hx hb dL_law_799 (by decide) ?_
      refine lv_iadd hx hb dL_law_800 ?_
      refine xs_lld C hX hbz hbl hS hi1 dL_law_801 ?_
      refine lv_aload_n hx hb dL_law_802 rfl (lv_at hl 5 rfl) ?_
      refine lv_iload hx hb dL_law_803 (lv_at hl 1 rfl) ?_
      refine lv_iconst (v := (2 : Int32)) hx hb dL_law_805 (by decide) ?_
      refine lv_iadd hx hb dL_law_806 ?_
      refine xs_lld C hX hbz hbl hS hi2 dL_law_807 ?_
      replace hP := xs_toM hP
      replace hD := xs_toMD hD
      refine xs_calli hS (xs_runV (As := [.int v1, .int v2]) (rest := []) C (mX11_how l em) w_1744 w_1745 w_1746 w_115 w_1747 hd_X11_how (xsRmB hcs (by decide) (by decide) (by decide) (by decide)) hP hD hS lk_X11 rfl hl.1 rfl (Nat.le_of_ble_eq_true rfl) dL_law_808) (fun H locs hP hD hS => ?_)
      refine lv_istore (lv' := [(6, .int mo.1), (5, .int 0), (4, .int i), (3, .ref (xsA X 131)), (2, .ref (xsA X 100)), (1, .ref (xsA X 0)), (0, .ref b)]) hx hb dL_law_811 hl (by decide) rfl (fun ls hl => ?_)
      refine lv_aload_n hx hb dL_law_813 rfl (lv_at hl 4 rfl) ?_
      refine xs_calli hS (xs_runV (As := []) (rest := []) C (mX11_thrown l rfl) w_1343 w_1344 w_1345 w_115 w_1346 hd_X11_thrown (xsRmB hcs (by decide) (by decide) (by decide) (by decide)) hP hD hS lk_X11 rfl hl.1 rfl (Nat.le_of_ble_eq_true rfl) dL_law_814) (fun H locs hP hD hS => ?_)
      replace hP := xs_toK hP
      replace hD := xs_toKD hD
      refine lv_iload hx hb dL_law_817 (lv_at hl 1 rfl) ?_
      refine lv_icmp_eq (tgt := 824) hx hb dL_law_819 (by decide) (fun _ => ?_) (fun q => absurd et q)
      refine lv_iload hx hb dL_law_824 (lv_at hl 1 rfl) ?_
      refine lv_if_ne (tgt := 841) hx hb dL_law_826 (by decide) (fun q => absurd rfl q) (fun _ => ?_)
      refine lv_aload_n hx hb dL_law_829 rfl (lv_at hl 3 rfl) ?_
      refine lv_iconst (v := (0 : Int32)) hx hb dL_law_830 (by decide) ?_
      refine xs_lald C hP (q0 := 99) rfl (vp_in_nI (n := 0) (by decide) (by decide)) dL_law_831 ?_
      refine lv_iload hx hb dL_law_832 (lv_at hl 0 rfl) ?_
      refine lv_i2l hx hb dL_law_834 rfl ?_
      refine xs_lcmp_eq (tgt := 841) C dL_law_835 dL_law_836 (by decide) (fun _ => ?_) (fun q => absurd (xs_ou0 (congrArg Int32.toInt64 ea)) q)
      refine lv_goto (tgt := 2175) hx hb dL_law_841 (by decide) ?_
      exact W.widen (Nat.add_le_add_left (by decide) _) (Nat.add_le_add_left (by decide) _) (kk hR hP hD hS (lv_sub hl [2, 3, 4, 5, 6] rfl))
    · cases e1
  · subst eo
    refine lv_aload_n hx hb dL_law_776 rfl (lv_at hl 3 rfl) ?_
    refine lv_aload_n hx hb dL_law_777 rfl (lv_at hl 4 rfl) ?_
    refine lv_iload hx hb dL_law_778 (lv_at hl 0 rfl) ?_
    refine lv_iconst (v := (1 : Int32)) hx hb dL_law_780 (by decide) ?_
    refine lv_iadd hx hb dL_law_781 ?_
    refine xs_lld C hX hbz hbl hS hi1 dL_law_782 ?_
    refine lv_aload_n hx hb dL_law_783 rfl (lv_at hl 4 rfl) ?_
    refine lv_iload hx hb dL_law_784 (lv_at hl 0 rfl) ?_
    refine lv_iconst (v := (2 : Int32)) hx hb dL_law_786 (by decide) ?_
    refine lv_iadd hx hb dL_law_787 ?_
    refine xs_lld C hX hbz hbl hS hi2 dL_law_788 ?_
    refine lv_aload_n hx hb dL_law_789 rfl (lv_at hl 1 rfl) ?_
    refine xs_lcalli hS (xs_lrunS (As := [.ref (xsA X 0), .int v1, .int v2, .ref (xsA X 131)]) (rest := []) C (mL_how l hst (xs_eta (S 0)) ef (fun n2 t2 h => by cases h; exact en)) w_1111 w_1112 w_104 w_1113 hd_L_how (xsRmL hcs (by decide) (by decide) (by decide) (by decide)) hP hD hS hl.1 rfl (Nat.le_of_ble_eq_true rfl) dL_law_790) (fun r u H locs hq hP hD hS => ?_)
    rcases hq with ⟨tx, e1, e2, e3⟩ | ⟨n2, tx, e1, e2, e3⟩
    · cases e1
    · cases e1
      subst e3
      have ekn : ¬ r = 0 := by rw [e2]; rcases en with rfl | rfl <;> decide
      replace et := et.trans e2.symm
      refine lv_istore (lv' := [(5, .int r), (4, .int i), (3, .ref (xsA X 131)), (2, .ref (xsA X 100)), (1, .ref (xsA X 0)), (0, .ref b)]) hx hb dL_law_793 hl (by decide) rfl (fun ls hl => ?_)
      refine lv_aload_n hx hb dL_law_795 rfl (lv_at hl 3 rfl) ?_
      refine lv_aload_n hx hb dL_law_796 rfl (lv_at hl 5 rfl) ?_
      refine lv_iload hx hb dL_law_797 (lv_at hl 1 rfl) ?_
      refine lv_iconst (v := (1 : Int32)) hx hb dL_law_799 (by decide) ?_
      refine lv_iadd hx hb dL_law_800 ?_
      refine xs_lld C hX hbz hbl hS hi1 dL_law_801 ?_
      refine lv_aload_n hx hb dL_law_802 rfl (lv_at hl 5 rfl) ?_
      refine lv_iload hx hb dL_law_803 (lv_at hl 1 rfl) ?_
      refine lv_iconst (v := (2 : Int32)) hx hb dL_law_805 (by decide) ?_
      refine lv_iadd hx hb dL_law_806 ?_
      refine xs_lld C hX hbz hbl hS hi2 dL_law_807 ?_
      replace hP := xs_toM hP
      replace hD := xs_toMD hD
      refine xs_calli hS (xs_runV (As := [.int v1, .int v2]) (rest := []) C (mX11_how l em) w_1744 w_1745 w_1746 w_115 w_1747 hd_X11_how (xsRmB hcs (by decide) (by decide) (by decide) (by decide)) hP hD hS lk_X11 rfl hl.1 rfl (Nat.le_of_ble_eq_true rfl) dL_law_808) (fun H locs hP hD hS => ?_)
      refine lv_istore (lv' := [(6, .int mo.1), (5, .int r), (4, .int i), (3, .ref (xsA X 131)), (2, .ref (xsA X 100)), (1, .ref (xsA X 0)), (0, .ref b)]) hx hb dL_law_811 hl (by decide) rfl (fun ls hl => ?_)
      refine lv_aload_n hx hb dL_law_813 rfl (lv_at hl 4 rfl) ?_
      refine xs_calli hS (xs_runV (As := []) (rest := []) C (mX11_thrown l rfl) w_1343 w_1344 w_1345 w_115 w_1346 hd_X11_thrown (xsRmB hcs (by decide) (by decide) (by decide) (by decide)) hP hD hS lk_X11 rfl hl.1 rfl (Nat.le_of_ble_eq_true rfl) dL_law_814) (fun H locs hP hD hS => ?_)
      replace hP := xs_toK hP
      replace hD := xs_toKD hD
      refine lv_iload hx hb dL_law_817 (lv_at hl 1 rfl) ?_
      refine lv_icmp_eq (tgt := 824) hx hb dL_law_819 (by decide) (fun _ => ?_) (fun q => absurd et q)
      refine lv_iload hx hb dL_law_824 (lv_at hl 1 rfl) ?_
      refine lv_if_ne (tgt := 841) hx hb dL_law_826 (by decide) (fun _ => ?_) (fun q => absurd q (ekn))
      refine lv_goto (tgt := 2175) hx hb dL_law_841 (by decide) ?_
      exact W.widen (Nat.add_le_add_left (by decide) _) (Nat.add_le_add_left (by decide) _) (kk hR hP hD hS (lv_sub hl [2, 3, 4, 5, 6] rfl))
set_option maxRecDepth 100000 in
set_option maxHeartbeats 8000000 in
theorem lc_meet {Rl : xsRel} (l : Launch) (hst : l.stackTraces = false) (hp : pc_meet Rl) {i v1 v2 v3 v4 v5 : Int32} (C : xsC p s m c cL_law #[.ref b] RL 8 X) (hX : va_X b L xs s s.heap) (hbz : b < xsZ X) (hbl : b < s.heap.size) (hi1 : vp_in (i + 1) L ∧ xs (i + 1).toNatClampNeg = v1) (hi2 : vp_in (i + 2) L ∧ xs (i + 2).toNatClampNeg = v2) (hi3 : vp_in (i + 3) L ∧ xs (i + 3).toNatClampNeg = v3) (hi4 : vp_in (i + 4) L ∧ xs (i + 4).toNatClampNeg = v4) (hi5 : vp_in (i + 5) L ∧ xs (i + 5).toNatClampNeg = v5) (hcs : xsRmC C0 D0) (hP : va_P (xsD X) vwCl (wK X kIsKept kIsStale hiLatest hiSize scBytes scTold scLength scFault scAt scNumber piSegmentsNow enKind enX enY enLower enFromX enFromY enToX enToY tiTouching tiLyingAlong tiMeetingPairs tiAlongPairs tiSize evX evY evLower evBundle evCrossingOf evEventOf evLeftEvent evRightEvent evSize evCrossings evSegmentsNow grDegree grEdges grFar grQueue grQueued huX huY huSize huBestX huBestY S (xsOc X ou :: wM X mThrown mWorld mImage mDraft mEarlier mRemembered mHasImage mIsLaid mOne mTwo mShare mX mY mD mEventX mEventY mEventD mEvents mCrossingOf mBundle mEventOf mDegree mFrom mTo mCrossings mEdges mMet mUpper mLower mTape mTaped mPoint mEnd mBegin mFaultAt mFive mTold mActs mFar mViews mHullX mHullY mEndX mEndY mHeightUp mHeightLow mMeets mMeetsOf [])) H) (hD : va_D (xsF X) (wK X kIsKept kIsStale hiLatest hiSize scBytes scTold scLength scFault scAt scNumber piSegmentsNow enKind enX enY enLower enFromX enFromY enToX enToY tiTouching tiLyingAlong tiMeetingPairs tiAlongPairs tiSize evX evY evLower evBundle evCrossingOf evEventOf evLeftEvent evRightEvent evSize evCrossings evSegmentsNow grDegree grEdges grFar grQueue grQueued huX huY huSize huBestX huBestY S (xsOc X ou :: wM X mThrown mWorld mImage mDraft mEarlier mRemembered mHasImage mIsLaid mOne mTwo mShare mX mY mD mEventX mEventY mEventD mEvents mCrossingOf mBundle mEventOf mDegree mFrom mTo mCrossings mEdges mMet mUpper mLower mTape mTaped mPoint mEnd mBegin mFaultAt mFive mTold mActs mFar mViews mHullX mHullY mEndX mEndY mHeightUp mHeightLow mMeets mMeetsOf []))) (hS : va_S (xsF X) s.heap H locs) (hl : lv_has ls 8 [(4, .int i), (3, .ref (xsA X 131)), (2, .ref (xsA X 100)), (1, .ref (xsA X 0)), (0, .ref b)]) (hR : Rl kIsKept kIsStale hiLatest hiSize scBytes scTold scLength scFault scAt scNumber piSegmentsNow enKind enX enY enLower enFromX enFromY enToX enToY tiTouching tiLyingAlong tiMeetingPairs tiAlongPairs tiSize evX evY evLower evBundle evCrossingOf evEventOf evLeftEvent evRightEvent evSize evCrossings evSegmentsNow grDegree grEdges grFar grQueue grQueued huX huY huSize huBestX huBestY S mThrown mWorld mImage mDraft mEarlier mRemembered mHasImage mIsLaid mOne mTwo mShare mX mY mD mEventX mEventY mEventD mEvents mCrossingOf mBundle mEventOf mDegree mFrom mTo mCrossings mEdges mMet mUpper mLower mTape mTaped mPoint mEnd mBegin mFaultAt mFive mTold mActs mFar mViews mHullX mHullY mEndX mEndY mHeightUp mHeightLow mMeets mMeetsOf)
    (kk : ∀ {kIsKept kIsStale hiLatest hiSize scLength scFault scAt scNumber piSegmentsNow enKind enFromX enFromY enToX enToY tiMeetingPairs tiAlongPairs tiSize evSize evCrossings evSegmentsNow grEdges grQueued huSize huBestX huBestY : Int32} {scBytes scTold tiTouching tiLyingAlong evBundle evCrossingOf evEventOf evLeftEvent evRightEvent grDegree grFar grQueue huX huY : Nat → Int32} {enX enY enLower : Int64} {evX evY evLower : Nat → Int64} {S : Nat → xsV} {mThrown mRemembered mHasImage mIsLaid mEvents mCrossings mEdges mTaped mPoint mEnd mBegin mFaultAt mActs : Int32} {mWorld mImage mDraft mEarlier mOne mTwo mShare mCrossingOf mBundle mEventOf mDegree mFrom mTo mMet mTape mFive mTold mFar mViews mHullX mHullY mEndX mEndY mMeets mMeetsOf : Nat → Int32} {mX mY mD mHeightUp mHeightLow : Int64} {mEventX mEventY mEventD mUpper mLower : Nat → Int64} {ou : Nat → Int64} {ls : Array Slot} {H : Heap} {locs : List Loc}, Rl kIsKept kIsStale hiLatest hiSize scBytes scTold scLength scFault scAt scNumber piSegmentsNow enKind enX enY enLower enFromX enFromY enToX enToY tiTouching tiLyingAlong tiMeetingPairs tiAlongPairs tiSize evX evY evLower evBundle evCrossingOf evEventOf evLeftEvent evRightEvent evSize evCrossings evSegmentsNow grDegree grEdges grFar grQueue grQueued huX huY huSize huBestX huBestY S mThrown mWorld mImage mDraft mEarlier mRemembered mHasImage mIsLaid mOne mTwo mShare mX mY mD mEventX mEventY mEventD mEvents mCrossingOf mBundle mEventOf mDegree mFrom mTo mCrossings mEdges mMet mUpper mLower mTape mTaped mPoint mEnd mBegin mFaultAt mFive mTold mActs mFar mViews mHullX mHullY mEndX mEndY mHeightUp mHeightLow mMeets mMeetsOf → va_P (xsD X) vwCl (wK X kIsKept kIsStale hiLatest hiSize scBytes scTold scLength scFault scAt scNumber piSegmentsNow enKind enX enY enLower enFromX enFromY enToX enToY tiTouching tiLyingAlong tiMeetingPairs tiAlongPairs tiSize evX evY evLower evBundle evCrossingOf evEventOf evLeftEvent evRightEvent evSize evCrossings evSegmentsNow grDegree grEdges grFar grQueue grQueued huX huY huSize huBestX huBestY S (xsOc X ou :: wM X mThrown mWorld mImage mDraft mEarlier mRemembered mHasImage mIsLaid mOne mTwo mShare mX mY mD mEventX mEventY mEventD mEvents mCrossingOf mBundle mEventOf mDegree mFrom mTo mCrossings mEdges mMet mUpper mLower mTape mTaped mPoint mEnd mBegin mFaultAt mFive mTold mActs mFar mViews mHullX mHullY mEndX mEndY mHeightUp mHeightLow mMeets mMeetsOf [])) H → va_D (xsF X) (wK X kIsKept kIsStale hiLatest hiSize scBytes scTold scLength scFault scAt scNumber piSegmentsNow enKind enX enY enLower enFromX enFromY enToX enToY tiTouching tiLyingAlong tiMeetingPairs tiAlongPairs tiSize evX evY evLower evBundle evCrossingOf evEventOf evLeftEvent evRightEvent evSize evCrossings evSegmentsNow grDegree grEdges grFar grQueue grQueued huX huY huSize huBestX huBestY S (xsOc X ou :: wM X mThrown mWorld mImage mDraft mEarlier mRemembered mHasImage mIsLaid mOne mTwo mShare mX mY mD mEventX mEventY mEventD mEvents mCrossingOf mBundle mEventOf mDegree mFrom mTo mCrossings mEdges mMet mUpper mLower mTape mTaped mPoint mEnd mBegin mFaultAt mFive mTold mActs mFar mViews mHullX mHullY mEndX mEndY mHeightUp mHeightLow mMeets mMeetsOf [])) → va_S (xsF X) s.heap H locs → lv_has ls 8 [(4, .int i), (3, .ref (xsA X 131)), (2, .ref (xsA X 100)), (1, .ref (xsA X 0)), (0, .ref b)] → W p l e room_1 s m #[.ref b] below meth c H locs (C0 + 5) (D0 + 30) Q (F0 m 2175 ls [])) :
    W p l e room_1 s m #[.ref b] below meth c H locs C0 D0 Q (F0 m 844 ls []) := by
  have hx := C.1
  have hb := C.2.1
  obtain ⟨out, mo, ef, em, hor⟩ := hp hR v1 v2 v3
  rcases hor with ⟨tt, eo, ea, et, hR⟩ | ⟨n, tt, eo, en, et, hR⟩
  · subst eo
    refine lv_aload_n hx hb dL_law_844 rfl (lv_at hl 3 rfl) ?_
    refine lv_aload_n hx hb dL_law_845 rfl (lv_at hl 4 rfl) ?_
    refine lv_iload hx hb dL_law_846 (lv_at hl 0 rfl) ?_
    refine lv_iconst (v := (1 : Int32)) hx hb dL_law_848 (by decide) ?_
    refine lv_iadd hx hb dL_law_849 ?_
    refine xs_lld C hX hbz hbl hS hi1 dL_law_850 ?_
    refine lv_aload_n hx hb dL_law_851 rfl (lv_at hl 4 rfl) ?_
    refine lv_iload hx hb dL_law_852 (lv_at hl 0 rfl) ?_
    refine lv_iconst (v := (2 : Int32)) hx hb dL_law_854 (by decide) ?_
    refine lv_iadd hx hb dL_law_855 ?_
    refine xs_lld C hX hbz hbl hS hi2 dL_law_856 ?_
    refine lv_aload_n hx hb dL_law_857 rfl (lv_at hl 4 rfl) ?_
    refine lv_iload hx hb dL_law_858 (lv_at hl 0 rfl) ?_
    refine lv_iconst (v := (3 : Int32)) hx hb dL_law_860 (by decide) ?_
    refine lv_iadd hx hb dL_law_861 ?_
    refine xs_lld C hX hbz hbl hS hi3 dL_law_862 ?_
    refine lv_aload_n hx hb dL_law_863 rfl (lv_at hl 1 rfl) ?_
    refine xs_lcalli hS (xs_lrunS (As := [.ref (xsA X 0), .int v1, .int v2, .int v3, .ref (xsA X 131)]) (rest := []) C (mL_meet l hst (xs_eta (S 0)) ef (fun n tt h => by cases h)) w_1135 w_1136 w_104 w_1137 hd_L_meet (xsRmL hcs (by decide) (by decide) (by decide) (by decide)) hP hD hS hl.1 rfl (Nat.le_of_ble_eq_true rfl) dL_law_864) (fun r u H locs hq hP hD hS => ?_)
    rcases hq with ⟨tx, e1, e2, e3⟩ | ⟨n, tx, e1, e2, e3⟩
    · cases e1
      subst e3
      subst e2
      refine lv_istore (lv' := [(5, .int 0), (4, .int i), (3, .ref (xsA X 131)), (2, .ref (xsA X 100)), (1, .ref (xsA X 0)), (0, .ref b)]) hx hb dL_law_867 hl (by decide) rfl (fun ls hl => ?_)
      refine lv_aload_n hx hb dL_law_869 rfl (lv_at hl 3 rfl) ?_
      refine lv_aload_n hx hb dL_law_870 rfl (lv_at hl 5 rfl) ?_
      refine lv_iload hx hb dL_law_871 (lv_at hl 1 rfl) ?_
      refine lv_iconst (v := (1 : Int32)) hx hb dL_law_873 (by decide) ?_
      refine lv_iadd hx hb dL_law_874 ?_
      refine xs_lld C hX hbz hbl hS hi1 dL_law_875 ?_
      refine lv_aload_n hx hb dL_law_876 rfl (lv_at hl 5 rfl) ?_
      refine lv_iload hx hb dL_law_877 (lv_at hl 1 rfl) ?_
      refine lv_iconst (v := (2 : Int32)) hx hb dL_law_879 (by decide) ?_
      refine lv_iadd hx hb dL_law_880 ?_
      refine xs_lld C hX hbz hbl hS hi2 dL_law_881 ?_
      refine lv_aload_n hx hb dL_law_882 rfl (lv_at hl 5 rfl) ?_
      refine lv_iload hx hb dL_law_883 (lv_at hl 1 rfl) ?_
      refine lv_iconst (v := (3 : Int32)) hx hb dL_law_885 (by decide) ?_
      refine lv_iadd hx hb dL_law_886 ?_
      refine xs_lld C hX hbz hbl hS hi3 dL_law_887 ?_
      replace hP := xs_toM hP
      replace hD := xs_toMD hD
      refine xs_calll hS (xs_runV (As := [.int v1, .int v2, .int v3]) (rest := []) C (mX11_meet l em) w_1760 w_1761 w_1762 w_115 w_1763 hd_X11_meet (xsRmB hcs (by decide) (by decide) (by decide) (by decide)) hP hD hS lk_X11 rfl hl.1 rfl (Nat.le_of_ble_eq_true rfl) dL_law_888) (fun H locs hP hD hS => ?_)
      refine lv_lstore (lv' := [(6, .long mo.1), (5, .int 0), (4, .int i), (3, .ref (xsA X 131)), (2, .ref (xsA X 100)), (1, .ref (xsA X 0)), (0, .ref b)]) hx hb dL_law_891 hl (by decide) rfl (fun ls hl => ?_)
      refine lv_aload_n hx hb dL_law_893 rfl (lv_at hl 4 rfl) ?_
      refine xs_calli hS (xs_runV (As := []) (rest := []) C (mX11_thrown l rfl) w_1343 w_1344 w_1345 w_115 w_1346 hd_X11_thrown (xsRmB hcs (by decide) (by decide) (by decide) (by decide)) hP hD hS lk_X11 rfl hl.1 rfl (Nat.le_of_ble_eq_true rfl) dL_law_894) (fun H locs hP hD hS => ?_)
      replace hP := xs_toK hP
      replace hD := xs_toKD hD
      refine lv_iload hx hb dL_law_897 (lv_at hl 1 rfl) ?_
      refine lv_icmp_eq (tgt := 904) hx hb dL_law_899 (by decide) (fun _ => ?_) (fun q => absurd et q)
      refine lv_iload hx hb dL_law_904 (lv_at hl 1 rfl) ?_
      refine lv_if_ne (tgt := 920) hx hb dL_law_906 (by decide) (fun q => absurd rfl q) (fun _ => ?_)
      refine lv_aload_n hx hb dL_law_909 rfl (lv_at hl 3 rfl) ?_
      refine lv_iconst (v := (0 : Int32)) hx hb dL_law_910 (by decide) ?_
      refine xs_lald C hP (q0 := 99) rfl (vp_in_nI (n := 0) (by decide) (by decide)) dL_law_911 ?_
      refine lv_lload hx hb dL_law_912 (lv_at hl 0 rfl) ?_
      refine xs_lcmp_eq (tgt := 920) C dL_law_914 dL_law_915 (by decide) (fun _ => ?_) (fun q => absurd (xs_ou0 ea) q)
      refine lv_goto (tgt := 2175) hx hb dL_law_920 (by decide) ?_
      exact W.widen (Nat.add_le_add_left (by decide) _) (Nat.add_le_add_left (by decide) _) (kk hR hP hD hS (lv_sub hl [2, 3, 4, 5, 6] rfl))
    · cases e1
  · subst eo
    refine lv_aload_n hx hb dL_law_844 rfl (lv_at hl 3 rfl) ?_
    refine lv_aload_n hx hb dL_law_845 rfl (lv_at hl 4 rfl) ?_
    refine lv_iload hx hb dL_law_846 (lv_at hl 0 rfl) ?_
    refine lv_iconst (v := (1 : Int32)) hx hb dL_law_848 (by decide) ?_
    refine lv_iadd hx hb dL_law_849 ?_
    refine xs_lld C hX hbz hbl hS hi1 dL_law_850 ?_
    refine lv_aload_n hx hb dL_law_851 rfl (lv_at hl 4 rfl) ?_
    refine lv_iload hx hb dL_law_852 (lv_at hl 0 rfl) ?_
    refine lv_iconst (v := (2 : Int32)) hx hb dL_law_854 (by decide) ?_
    refine lv_iadd hx hb dL_law_855 ?_
    refine xs_lld C hX hbz hbl hS hi2 dL_law_856 ?_
    refine lv_aload_n hx hb dL_law_857 rfl (lv_at hl 4 rfl) ?_
    refine lv_iload hx hb dL_law_858 (lv_at hl 0 rfl) ?_
    refine lv_iconst (v := (3 : Int32)) hx hb dL_law_860 (by decide) ?_
    refine lv_iadd hx hb dL_law_861 ?_
    refine xs_lld C hX hbz hbl hS hi3 dL_law_862 ?_
    refine lv_aload_n hx hb dL_law_863 rfl (lv_at hl 1 rfl) ?_
    refine xs_lcalli hS (xs_lrunS (As := [.ref (xsA X 0), .int v1, .int v2, .int v3, .ref (xsA X 131)]) (rest := []) C (mL_meet l hst (xs_eta (S 0)) ef (fun n2 t2 h => by cases h; exact en)) w_1135 w_1136 w_104 w_1137 hd_L_meet (xsRmL hcs (by decide) (by decide) (by decide) (by decide)) hP hD hS hl.1 rfl (Nat.le_of_ble_eq_true rfl) dL_law_864) (fun r u H locs hq hP hD hS => ?_)
    rcases hq with ⟨tx, e1, e2, e3⟩ | ⟨n2, tx, e1, e2, e3⟩
    · cases e1
    · cases e1
      subst e3
      have ekn : ¬ r = 0 := by rw [e2]; rcases en with rfl | rfl | rfl | rfl <;> decide
      replace et := et.trans e2.symm
      refine lv_istore (lv' := [(5, .int r), (4, .int i), (3, .ref (xsA X 131)), (2, .ref (xsA X 100)), (1, .ref (xsA X 0)), (0, .ref b)]) hx hb dL_law_867 hl (by decide) rfl (fun ls hl => ?_)
      refine lv_aload_n hx hb dL_law_869 rfl (lv_at hl 3 rfl) ?_
      refine lv_aload_n hx hb dL_law_870 rfl (lv_at hl 5 rfl) ?_
      refine lv_iload hx hb dL_law_871 (lv_at hl 1 rfl) ?_
      refine lv_iconst (v := (1 : Int32)) hx hb dL_law_873 (by decide) ?_
      refine lv_iadd hx hb dL_law_874 ?_
      refine xs_lld C hX hbz hbl hS hi1 dL_law_875 ?_
      refine lv_aload_n hx hb dL_law_876 rfl (lv_at hl 5 rfl) ?_
      refine lv_iload hx hb dL_law_877 (lv_at hl 1 rfl) ?_
      refine lv_iconst (v := (2 : Int32)) hx hb dL_law_879 (by decide) ?_
      refine lv_iadd hx hb dL_law_880 ?_
      refine xs_lld C hX hbz hbl hS hi2 dL_law_881 ?_
      refine lv_aload_n hx hb dL_law_882 rfl (lv_at hl 5 rfl) ?_
      refine lv_iload hx hb dL_law_883 (lv_at hl 1 rfl) ?_
      refine lv_iconst (v := (3 : Int32)) hx hb dL_law_885 (by decide) ?_
      refine lv_iadd hx hb dL_law_886 ?_
      refine xs_lld C hX hbz hbl hS hi3 dL_law_887 ?_
      replace hP := xs_toM hP
      replace hD := xs_toMD hD
      refine xs_calll hS (xs_runV (As := [.int v1, .int v2, .int v3]) (rest := []) C (mX11_meet l em) w_1760 w_1761 w_1762 w_115 w_1763 hd_X11_meet (xsRmB hcs (by decide) (by decide) (by decide) (by decide)) hP hD hS lk_X11 rfl hl.1 rfl (Nat.le_of_ble_eq_true rfl) dL_law_888) (fun H locs hP hD hS => ?_)
      refine lv_lstore (lv' := [(6, .long mo.1), (5, .int r), (4, .int i), (3, .ref (xsA X 131)), (2, .ref (xsA X 100)), (1, .ref (xsA X 0)), (0, .ref b)]) hx hb dL_law_891 hl (by decide) rfl (fun ls hl => ?_)
      refine lv_aload_n hx hb dL_law_893 rfl (lv_at hl 4 rfl) ?_
      refine xs_calli hS (xs_runV (As := []) (rest := []) C (mX11_thrown l rfl) w_1343 w_1344 w_1345 w_115 w_1346 hd_X11_thrown (xsRmB hcs (by decide) (by decide) (by decide) (by decide)) hP hD hS lk_X11 rfl hl.1 rfl (Nat.le_of_ble_eq_true rfl) dL_law_894) (fun H locs hP hD hS => ?_)
      replace hP := xs_toK hP
      replace hD := xs_toKD hD
      refine lv_iload hx hb dL_law_897 (lv_at hl 1 rfl) ?_
      refine lv_icmp_eq (tgt := 904) hx hb dL_law_899 (by decide) (fun _ => ?_) (fun q => absurd et q)
      refine lv_iload hx hb dL_law_904 (lv_at hl 1 rfl) ?_
      refine lv_if_ne (tgt := 920) hx hb dL_law_906 (by decide) (fun _ => ?_) (fun q => absurd q (ekn))
      refine lv_goto (tgt := 2175) hx hb dL_law_920 (by decide) ?_
      exact W.widen (Nat.add_le_add_left (by decide) _) (Nat.add_le_add_left (by decide) _) (kk hR hP hD hS (lv_sub hl [2, 3, 4, 5, 6] rfl))
set_option maxRecDepth 100000 in
set_option maxHeartbeats 8000000 in
theorem lc_along {Rl : xsRel} (l : Launch) (hst : l.stackTraces = false) (hp : pc_along Rl) {i v1 v2 v3 v4 v5 : Int32} (C : xsC p s m c cL_law #[.ref b] RL 8 X) (hX : va_X b L xs s s.heap) (hbz : b < xsZ X) (hbl : b < s.heap.size) (hi1 : vp_in (i + 1) L ∧ xs (i + 1).toNatClampNeg = v1) (hi2 : vp_in (i + 2) L ∧ xs (i + 2).toNatClampNeg = v2) (hi3 : vp_in (i + 3) L ∧ xs (i + 3).toNatClampNeg = v3) (hi4 : vp_in (i + 4) L ∧ xs (i + 4).toNatClampNeg = v4) (hi5 : vp_in (i + 5) L ∧ xs (i + 5).toNatClampNeg = v5) (hcs : xsRmC C0 D0) (hP : va_P (xsD X) vwCl (wK X kIsKept kIsStale hiLatest hiSize scBytes scTold scLength scFault scAt scNumber piSegmentsNow enKind enX enY enLower enFromX enFromY enToX enToY tiTouching tiLyingAlong tiMeetingPairs tiAlongPairs tiSize evX evY evLower evBundle evCrossingOf evEventOf evLeftEvent evRightEvent evSize evCrossings evSegmentsNow grDegree grEdges grFar grQueue grQueued huX huY huSize huBestX huBestY S (xsOc X ou :: wM X mThrown mWorld mImage mDraft mEarlier mRemembered mHasImage mIsLaid mOne mTwo mShare mX mY mD mEventX mEventY mEventD mEvents mCrossingOf mBundle mEventOf mDegree mFrom mTo mCrossings mEdges mMet mUpper mLower mTape mTaped mPoint mEnd mBegin mFaultAt mFive mTold mActs mFar mViews mHullX mHullY mEndX mEndY mHeightUp mHeightLow mMeets mMeetsOf [])) H) (hD : va_D (xsF X) (wK X kIsKept kIsStale hiLatest hiSize scBytes scTold scLength scFault scAt scNumber piSegmentsNow enKind enX enY enLower enFromX enFromY enToX enToY tiTouching tiLyingAlong tiMeetingPairs tiAlongPairs tiSize evX evY evLower evBundle evCrossingOf evEventOf evLeftEvent evRightEvent evSize evCrossings evSegmentsNow grDegree grEdges grFar grQueue grQueued huX huY huSize huBestX huBestY S (xsOc X ou :: wM X mThrown mWorld mImage mDraft mEarlier mRemembered mHasImage mIsLaid mOne mTwo mShare mX mY mD mEventX mEventY mEventD mEvents mCrossingOf mBundle mEventOf mDegree mFrom mTo mCrossings mEdges mMet mUpper mLower mTape mTaped mPoint mEnd mBegin mFaultAt mFive mTold mActs mFar mViews mHullX mHullY mEndX mEndY mHeightUp mHeightLow mMeets mMeetsOf []))) (hS : va_S (xsF X) s.heap H locs) (hl : lv_has ls 8 [(4, .int i), (3, .ref (xsA X 131)), (2, .ref (xsA X 100)), (1, .ref (xsA X 0)), (0, .ref b)]) (hR : Rl kIsKept kIsStale hiLatest hiSize scBytes scTold scLength scFault scAt scNumber piSegmentsNow enKind enX enY enLower enFromX enFromY enToX enToY tiTouching tiLyingAlong tiMeetingPairs tiAlongPairs tiSize evX evY evLower evBundle evCrossingOf evEventOf evLeftEvent evRightEvent evSize evCrossings evSegmentsNow grDegree grEdges grFar grQueue grQueued huX huY huSize huBestX huBestY S mThrown mWorld mImage mDraft mEarlier mRemembered mHasImage mIsLaid mOne mTwo mShare mX mY mD mEventX mEventY mEventD mEvents mCrossingOf mBundle mEventOf mDegree mFrom mTo mCrossings mEdges mMet mUpper mLower mTape mTaped mPoint mEnd mBegin mFaultAt mFive mTold mActs mFar mViews mHullX mHullY mEndX mEndY mHeightUp mHeightLow mMeets mMeetsOf)
    (kk : ∀ {kIsKept kIsStale hiLatest hiSize scLength scFault scAt scNumber piSegmentsNow enKind enFromX enFromY enToX enToY tiMeetingPairs tiAlongPairs tiSize evSize evCrossings evSegmentsNow grEdges grQueued huSize huBestX huBestY : Int32} {scBytes scTold tiTouching tiLyingAlong evBundle evCrossingOf evEventOf evLeftEvent evRightEvent grDegree grFar grQueue huX huY : Nat → Int32} {enX enY enLower : Int64} {evX evY evLower : Nat → Int64} {S : Nat → xsV} {mThrown mRemembered mHasImage mIsLaid mEvents mCrossings mEdges mTaped mPoint mEnd mBegin mFaultAt mActs : Int32} {mWorld mImage mDraft mEarlier mOne mTwo mShare mCrossingOf mBundle mEventOf mDegree mFrom mTo mMet mTape mFive mTold mFar mViews mHullX mHullY mEndX mEndY mMeets mMeetsOf : Nat → Int32} {mX mY mD mHeightUp mHeightLow : Int64} {mEventX mEventY mEventD mUpper mLower : Nat → Int64} {ou : Nat → Int64} {ls : Array Slot} {H : Heap} {locs : List Loc}, Rl kIsKept kIsStale hiLatest hiSize scBytes scTold scLength scFault scAt scNumber piSegmentsNow enKind enX enY enLower enFromX enFromY enToX enToY tiTouching tiLyingAlong tiMeetingPairs tiAlongPairs tiSize evX evY evLower evBundle evCrossingOf evEventOf evLeftEvent evRightEvent evSize evCrossings evSegmentsNow grDegree grEdges grFar grQueue grQueued huX huY huSize huBestX huBestY S mThrown mWorld mImage mDraft mEarlier mRemembered mHasImage mIsLaid mOne mTwo mShare mX mY mD mEventX mEventY mEventD mEvents mCrossingOf mBundle mEventOf mDegree mFrom mTo mCrossings mEdges mMet mUpper mLower mTape mTaped mPoint mEnd mBegin mFaultAt mFive mTold mActs mFar mViews mHullX mHullY mEndX mEndY mHeightUp mHeightLow mMeets mMeetsOf → va_P (xsD X) vwCl (wK X kIsKept kIsStale hiLatest hiSize scBytes scTold scLength scFault scAt scNumber piSegmentsNow enKind enX enY enLower enFromX enFromY enToX enToY tiTouching tiLyingAlong tiMeetingPairs tiAlongPairs tiSize evX evY evLower evBundle evCrossingOf evEventOf evLeftEvent evRightEvent evSize evCrossings evSegmentsNow grDegree grEdges grFar grQueue grQueued huX huY huSize huBestX huBestY S (xsOc X ou :: wM X mThrown mWorld mImage mDraft mEarlier mRemembered mHasImage mIsLaid mOne mTwo mShare mX mY mD mEventX mEventY mEventD mEvents mCrossingOf mBundle mEventOf mDegree mFrom mTo mCrossings mEdges mMet mUpper mLower mTape mTaped mPoint mEnd mBegin mFaultAt mFive mTold mActs mFar mViews mHullX mHullY mEndX mEndY mHeightUp mHeightLow mMeets mMeetsOf [])) H → va_D (xsF X) (wK X kIsKept kIsStale hiLatest hiSize scBytes scTold scLength scFault scAt scNumber piSegmentsNow enKind enX enY enLower enFromX enFromY enToX enToY tiTouching tiLyingAlong tiMeetingPairs tiAlongPairs tiSize evX evY evLower evBundle evCrossingOf evEventOf evLeftEvent evRightEvent evSize evCrossings evSegmentsNow grDegree grEdges grFar grQueue grQueued huX huY huSize huBestX huBestY S (xsOc X ou :: wM X mThrown mWorld mImage mDraft mEarlier mRemembered mHasImage mIsLaid mOne mTwo mShare mX mY mD mEventX mEventY mEventD mEvents mCrossingOf mBundle mEventOf mDegree mFrom mTo mCrossings mEdges mMet mUpper mLower mTape mTaped mPoint mEnd mBegin mFaultAt mFive mTold mActs mFar mViews mHullX mHullY mEndX mEndY mHeightUp mHeightLow mMeets mMeetsOf [])) → va_S (xsF X) s.heap H locs → lv_has ls 8 [(4, .int i), (3, .ref (xsA X 131)), (2, .ref (xsA X 100)), (1, .ref (xsA X 0)), (0, .ref b)] → W p l e room_1 s m #[.ref b] below meth c H locs (C0 + 5) (D0 + 30) Q (F0 m 2175 ls [])) :
    W p l e room_1 s m #[.ref b] below meth c H locs C0 D0 Q (F0 m 923 ls []) := by
  have hx := C.1
  have hb := C.2.1
  obtain ⟨out, mo, ef, em, hor⟩ := hp hR v1 v2 v3
  rcases hor with ⟨tt, eo, ea, et, hR⟩ | ⟨n, tt, eo, en, et, hR⟩
  · subst eo
    refine lv_aload_n hx hb dL_law_923 rfl (lv_at hl 3 rfl) ?_
    refine lv_aload_n hx hb dL_law_924 rfl (lv_at hl 4 rfl) ?_
    refine lv_iload hx hb dL_law_925 (lv_at hl 0 rfl) ?_
    refine lv_iconst (v := (1 : Int32)) hx hb dL_law_927 (by decide) ?_
    refine lv_iadd hx hb dL_law_928 ?_
    refine xs_lld C hX hbz hbl hS hi1 dL_law_929 ?_
    refine lv_aload_n hx hb dL_law_930 rfl (lv_at hl 4 rfl) ?_
    refine lv_iload hx hb dL_law_931 (lv_at hl 0 rfl) ?_
    refine lv_iconst (v := (2 : Int32)) hx hb dL_law_933 (by decide) ?_
    refine lv_iadd hx hb dL_law_934 ?_
    refine xs_lld C hX hbz hbl hS hi2 dL_law_935 ?_
    refine lv_aload_n hx hb dL_law_936 rfl (lv_at hl 4 rfl) ?_
    refine lv_iload hx hb dL_law_937 (lv_at hl 0 rfl) ?_
    refine lv_iconst (v := (3 : Int32)) hx hb dL_law_939 (by decide) ?_
    refine lv_iadd hx hb dL_law_940 ?_
    refine xs_lld C hX hbz hbl hS hi3 dL_law_941 ?_
    refine lv_aload_n hx hb dL_law_942 rfl (lv_at hl 1 rfl) ?_
    refine xs_lcalli hS (xs_lrunS (As := [.ref (xsA X 0), .int v1, .int v2, .int v3, .ref (xsA X 131)]) (rest := []) C (mL_along l hst (xs_eta (S 0)) ef (fun n tt h => by cases h)) w_1154 w_1155 w_104 w_1156 hd_L_along (xsRmL hcs (by decide) (by decide) (by decide) (by decide)) hP hD hS hl.1 rfl (Nat.le_of_ble_eq_true rfl) dL_law_943) (fun r u H locs hq hP hD hS => ?_)
    rcases hq with ⟨tx, e1, e2, e3⟩ | ⟨n, tx, e1, e2, e3⟩
    · cases e1
      subst e3
      subst e2
      refine lv_istore (lv' := [(5, .int 0), (4, .int i), (3, .ref (xsA X 131)), (2, .ref (xsA X 100)), (1, .ref (xsA X 0)), (0, .ref b)]) hx hb dL_law_946 hl (by decide) rfl (fun ls hl => ?_)
      refine lv_aload_n hx hb dL_law_948 rfl (lv_at hl 3 rfl) ?_
      refine lv_aload_n hx hb dL_law_949 rfl (lv_at hl 5 rfl) ?_
      refine lv_iload hx hb dL_law_950 (lv_at hl 1 rfl) ?_
      refine lv_iconst (v := (1 : Int32)) hx hb dL_law_952 (by decide) ?_
      refine lv_iadd hx hb dL_law_953 ?_
      refine xs_lld C hX hbz hbl hS hi1 dL_law_954 ?_
      refine lv_aload_n hx hb dL_law_955 rfl (lv_at hl 5 rfl) ?_
      refine lv_iload hx hb dL_law_956 (lv_at hl 1 rfl) ?_
      refine lv_iconst (v := (2 : Int32)) hx hb dL_law_958 (by decide) ?_
      refine lv_iadd hx hb dL_law_959 ?_
      refine xs_lld C hX hbz hbl hS hi2 dL_law_960 ?_
      refine lv_aload_n hx hb dL_law_961 rfl (lv_at hl 5 rfl) ?_
      refine lv_iload hx hb dL_law_962 (lv_at hl 1 rfl) ?_
      refine lv_iconst (v := (3 : Int32)) hx hb dL_law_964 (by decide) ?_
      refine lv_iadd hx hb dL_law_965 ?_
      refine xs_lld C hX hbz hbl hS hi3 dL_law_966 ?_
      replace hP := xs_toM hP
      replace hD := xs_toMD hD
      refine xs_calli hS (xs_runV (As := [.int v1, .int v2, .int v3]) (rest := []) C (mX11_along l em) w_1770 w_1771 w_1772 w_115 w_1773 hd_X11_along (xsRmB hcs (by decide) (by decide) (by decide) (by decide)) hP hD hS lk_X11 rfl hl.1 rfl (Nat.le_of_ble_eq_true rfl) dL_law_967) (fun H locs hP hD hS => ?_)
      refine lv_istore (lv' := [(6, .int mo.1), (5, .int 0), (4, .int i), (3, .ref (xsA X 131)), (2, .ref (xsA X 100)), (1, .ref (xsA X 0)), (0, .ref b)]) hx hb dL_law_970 hl (by decide) rfl (fun ls hl => ?_)
      refine lv_aload_n hx hb dL_law_972 rfl (lv_at hl 4 rfl) ?_
      refine xs_calli hS (xs_runV (As := []) (rest := []) C (mX11_thrown l rfl) w_1343 w_1344 w_1345 w_115 w_1346 hd_X11_thrown (xsRmB hcs (by decide) (by decide) (by decide) (by decide)) hP hD hS lk_X11 rfl hl.1 rfl (Nat.le_of_ble_eq_true rfl) dL_law_973) (fun H locs hP hD hS => ?_)
      replace hP := xs_toK hP
      replace hD := xs_toKD hD
      refine lv_iload hx hb dL_law_976 (lv_at hl 1 rfl) ?_
      refine lv_icmp_eq (tgt := 983) hx hb dL_law_978 (by decide) (fun _ => ?_) (fun q => absurd et q)
      refine lv_iload hx hb dL_law_983 (lv_at hl 1 rfl) ?_
      refine lv_if_ne (tgt := 1000) hx hb dL_law_985 (by decide) (fun q => absurd rfl q) (fun _ => ?_)
      refine lv_aload_n hx hb dL_law_988 rfl (lv_at hl 3 rfl) ?_
      refine lv_iconst (v := (0 : Int32)) hx hb dL_law_989 (by decide) ?_
      refine xs_lald C hP (q0 := 99) rfl (vp_in_nI (n := 0) (by decide) (by decide)) dL_law_990 ?_
      refine lv_iload hx hb dL_law_991 (lv_at hl 0 rfl) ?_
      refine lv_i2l hx hb dL_law_993 rfl ?_
      refine xs_lcmp_eq (tgt := 1000) C dL_law_994 dL_law_995 (by decide) (fun _ => ?_) (fun q => absurd (xs_ou0 (congrArg Int32.toInt64 ea)) q)
      refine lv_goto (tgt := 2175) hx hb dL_law_1000 (by decide) ?_
      exact W.widen (Nat.add_le_add_left (by decide) _) (Nat.add_le_add_left (by decide) _) (kk hR hP hD hS (lv_sub hl [2, 3, 4, 5, 6] rfl))
    · cases e1
  · subst eo
    refine lv_aload_n hx hb dL_law_923 rfl (lv_at hl 3 rfl) ?_
    refine lv_aload_n hx hb dL_law_924 rfl (lv_at hl 4 rfl) ?_
    refine lv_iload hx hb dL_law_925 (lv_at hl 0 rfl) ?_
    refine lv_iconst (v := (1 : Int32)) hx hb dL_law_927 (by decide) ?_
    refine lv_iadd hx hb dL_law_928 ?_
    refine xs_lld C hX hbz hbl hS hi1 dL_law_929 ?_
    refine lv_aload_n hx hb dL_law_930 rfl (lv_at hl 4 rfl) ?_
    refine lv_iload hx hb dL_law_931 (lv_at hl 0 rfl) ?_
    refine lv_iconst (v := (2 : Int32)) hx hb dL_law_933 (by decide) ?_
    refine lv_iadd hx hb dL_law_934 ?_
    refine xs_lld C hX hbz hbl hS hi2 dL_law_935 ?_
    refine lv_aload_n hx hb dL_law_936 rfl (lv_at hl 4 rfl) ?_
    refine lv_iload hx hb dL_law_937 (lv_at hl 0 rfl) ?_
    refine lv_iconst (v := (3 : Int32)) hx hb dL_law_939 (by decide) ?_
    refine lv_iadd hx hb dL_law_940 ?_
    refine xs_lld C hX hbz hbl hS hi3 dL_law_941 ?_
    refine lv_aload_n hx hb dL_law_942 rfl (lv_at hl 1 rfl) ?_
    refine xs_lcalli hS (xs_lrunS (As := [.ref (xsA X 0), .int v1, .int v2, .int v3, .ref (xsA X 131)]) (rest := []) C (mL_along l hst (xs_eta (S 0)) ef (fun n2 t2 h => by cases h; exact en)) w_1154 w_1155 w_104 w_1156 hd_L_along (xsRmL hcs (by decide) (by decide) (by decide) (by decide)) hP hD hS hl.1 rfl (Nat.le_of_ble_eq_true rfl) dL_law_943) (fun r u H locs hq hP hD hS => ?_)
    rcases hq with ⟨tx, e1, e2, e3⟩ | ⟨n2, tx, e1, e2, e3⟩
    · cases e1
    · cases e1
      subst e3
      have ekn : ¬ r = 0 := by rw [e2]; rcases en with rfl | rfl | rfl | rfl <;> decide
      replace et := et.trans e2.symm
      refine lv_istore (lv' := [(5, .int r), (4, .int i), (3, .ref (xsA X 131)), (2, .ref (xsA X 100)), (1, .ref (xsA X 0)), (0, .ref b)]) hx hb dL_law_946 hl (by decide) rfl (fun ls hl => ?_)
      refine lv_aload_n hx hb dL_law_948 rfl (lv_at hl 3 rfl) ?_
      refine lv_aload_n hx hb dL_law_949 rfl (lv_at hl 5 rfl) ?_
      refine lv_iload hx hb dL_law_950 (lv_at hl 1 rfl) ?_
      refine lv_iconst (v := (1 : Int32)) hx hb dL_law_952 (by decide) ?_
      refine lv_iadd hx hb dL_law_953 ?_
      refine xs_lld C hX hbz hbl hS hi1 dL_law_954 ?_
      refine lv_aload_n hx hb dL_law_955 rfl (lv_at hl 5 rfl) ?_
      refine lv_iload hx hb dL_law_956 (lv_at hl 1 rfl) ?_
      refine lv_iconst (v := (2 : Int32)) hx hb dL_law_958 (by decide) ?_
      refine lv_iadd hx hb dL_law_959 ?_
      refine xs_lld C hX hbz hbl hS hi2 dL_law_960 ?_
      refine lv_aload_n hx hb dL_law_961 rfl (lv_at hl 5 rfl) ?_
      refine lv_iload hx hb dL_law_962 (lv_at hl 1 rfl) ?_
      refine lv_iconst (v := (3 : Int32)) hx hb dL_law_964 (by decide) ?_
      refine lv_iadd hx hb dL_law_965 ?_
      refine xs_lld C hX hbz hbl hS hi3 dL_law_966 ?_
      replace hP := xs_toM hP
      replace hD := xs_toMD hD
      refine xs_calli hS (xs_runV (As := [.int v1, .int v2, .int v3]) (rest := []) C (mX11_along l em) w_1770 w_1771 w_1772 w_115 w_1773 hd_X11_along (xsRmB hcs (by decide) (by decide) (by decide) (by decide)) hP hD hS lk_X11 rfl hl.1 rfl (Nat.le_of_ble_eq_true rfl) dL_law_967) (fun H locs hP hD hS => ?_)
      refine lv_istore (lv' := [(6, .int mo.1), (5, .int r), (4, .int i), (3, .ref (xsA X 131)), (2, .ref (xsA X 100)), (1, .ref (xsA X 0)), (0, .ref b)]) hx hb dL_law_970 hl (by decide) rfl (fun ls hl => ?_)
      refine lv_aload_n hx hb dL_law_972 rfl (lv_at hl 4 rfl) ?_
      refine xs_calli hS (xs_runV (As := []) (rest := []) C (mX11_thrown l rfl) w_1343 w_1344 w_1345 w_115 w_1346 hd_X11_thrown (xsRmB hcs (by decide) (by decide) (by decide) (by decide)) hP hD hS lk_X11 rfl hl.1 rfl (Nat.le_of_ble_eq_true rfl) dL_law_973) (fun H locs hP hD hS => ?_)
      replace hP := xs_toK hP
      replace hD := xs_toKD hD
      refine lv_iload hx hb dL_law_976 (lv_at hl 1 rfl) ?_
      refine lv_icmp_eq (tgt := 983) hx hb dL_law_978 (by decide) (fun _ => ?_) (fun q => absurd et q)
      refine lv_iload hx hb dL_law_983 (lv_at hl 1 rfl) ?_
      refine lv_if_ne (tgt := 1000) hx hb dL_law_985 (by decide) (fun _ => ?_) (fun q => absurd q (ekn))
      refine lv_goto (tgt := 2175) hx hb dL_law_1000 (by decide) ?_
      exact W.widen (Nat.add_le_add_left (by decide) _) (Nat.add_le_add_left (by decide) _) (kk hR hP hD hS (lv_sub hl [2, 3, 4, 5, 6] rfl))
set_option maxRecDepth 100000 in
set_option maxHeartbeats 8000000 in
theorem lc_crossing {Rl : xsRel} (l : Launch) (hst : l.stackTraces = false) (hp : pc_crossing Rl) {i v1 v2 v3 v4 v5 : Int32} (C : xsC p s m c cL_law #[.ref b] RL 8 X) (hX : va_X b L xs s s.heap) (hbz : b < xsZ X) (hbl : b < s.heap.size) (hi1 : vp_in (i + 1) L ∧ xs (i + 1).toNatClampNeg = v1) (hi2 : vp_in (i + 2) L ∧ xs (i + 2).toNatClampNeg = v2) (hi3 : vp_in (i + 3) L ∧ xs (i + 3).toNatClampNeg = v3) (hi4 : vp_in (i + 4) L ∧ xs (i + 4).toNatClampNeg = v4) (hi5 : vp_in (i + 5) L ∧ xs (i + 5).toNatClampNeg = v5) (hcs : xsRmC C0 D0) (hP : va_P (xsD X) vwCl (wK X kIsKept kIsStale hiLatest hiSize scBytes scTold scLength scFault scAt scNumber piSegmentsNow enKind enX enY enLower enFromX enFromY enToX enToY tiTouching tiLyingAlong tiMeetingPairs tiAlongPairs tiSize evX evY evLower evBundle evCrossingOf evEventOf evLeftEvent evRightEvent evSize evCrossings evSegmentsNow grDegree grEdges grFar grQueue grQueued huX huY huSize huBestX huBestY S (xsOc X ou :: wM X mThrown mWorld mImage mDraft mEarlier mRemembered mHasImage mIsLaid mOne mTwo mShare mX mY mD mEventX mEventY mEventD mEvents mCrossingOf mBundle mEventOf mDegree mFrom mTo mCrossings mEdges mMet mUpper mLower mTape mTaped mPoint mEnd mBegin mFaultAt mFive mTold mActs mFar mViews mHullX mHullY mEndX mEndY mHeightUp mHeightLow mMeets mMeetsOf [])) H) (hD : va_D (xsF X) (wK X kIsKept kIsStale hiLatest hiSize scBytes scTold scLength scFault scAt scNumber piSegmentsNow enKind enX enY enLower enFromX enFromY enToX enToY tiTouching tiLyingAlong tiMeetingPairs tiAlongPairs tiSize evX evY evLower evBundle evCrossingOf evEventOf evLeftEvent evRightEvent evSize evCrossings evSegmentsNow grDegree grEdges grFar grQueue grQueued huX huY huSize huBestX huBestY S (xsOc X ou :: wM X mThrown mWorld mImage mDraft mEarlier mRemembered mHasImage mIsLaid mOne mTwo mShare mX mY mD mEventX mEventY mEventD mEvents mCrossingOf mBundle mEventOf mDegree mFrom mTo mCrossings mEdges mMet mUpper mLower mTape mTaped mPoint mEnd mBegin mFaultAt mFive mTold mActs mFar mViews mHullX mHullY mEndX mEndY mHeightUp mHeightLow mMeets mMeetsOf []))) (hS : va_S (xsF X) s.heap H locs) (hl : lv_has ls 8 [(4, .int i), (3, .ref (xsA X 131)), (2, .ref (xsA X 100)), (1, .ref (xsA X 0)), (0, .ref b)]) (hR : Rl kIsKept kIsStale hiLatest hiSize scBytes scTold scLength scFault scAt scNumber piSegmentsNow enKind enX enY enLower enFromX enFromY enToX enToY tiTouching tiLyingAlong tiMeetingPairs tiAlongPairs tiSize evX evY evLower evBundle evCrossingOf evEventOf evLeftEvent evRightEvent evSize evCrossings evSegmentsNow grDegree grEdges grFar grQueue grQueued huX huY huSize huBestX huBestY S mThrown mWorld mImage mDraft mEarlier mRemembered mHasImage mIsLaid mOne mTwo mShare mX mY mD mEventX mEventY mEventD mEvents mCrossingOf mBundle mEventOf mDegree mFrom mTo mCrossings mEdges mMet mUpper mLower mTape mTaped mPoint mEnd mBegin mFaultAt mFive mTold mActs mFar mViews mHullX mHullY mEndX mEndY mHeightUp mHeightLow mMeets mMeetsOf)
    (kk : ∀ {kIsKept kIsStale hiLatest hiSize scLength scFault scAt scNumber piSegmentsNow enKind enFromX enFromY enToX enToY tiMeetingPairs tiAlongPairs tiSize evSize evCrossings evSegmentsNow grEdges grQueued huSize huBestX huBestY : Int32} {scBytes scTold tiTouching tiLyingAlong evBundle evCrossingOf evEventOf evLeftEvent evRightEvent grDegree grFar grQueue huX huY : Nat → Int32} {enX enY enLower : Int64} {evX evY evLower : Nat → Int64} {S : Nat → xsV} {mThrown mRemembered mHasImage mIsLaid mEvents mCrossings mEdges mTaped mPoint mEnd mBegin mFaultAt mActs : Int32} {mWorld mImage mDraft mEarlier mOne mTwo mShare mCrossingOf mBundle mEventOf mDegree mFrom mTo mMet mTape mFive mTold mFar mViews mHullX mHullY mEndX mEndY mMeets mMeetsOf : Nat → Int32} {mX mY mD mHeightUp mHeightLow : Int64} {mEventX mEventY mEventD mUpper mLower : Nat → Int64} {ou : Nat → Int64} {ls : Array Slot} {H : Heap} {locs : List Loc}, Rl kIsKept kIsStale hiLatest hiSize scBytes scTold scLength scFault scAt scNumber piSegmentsNow enKind enX enY enLower enFromX enFromY enToX enToY tiTouching tiLyingAlong tiMeetingPairs tiAlongPairs tiSize evX evY evLower evBundle evCrossingOf evEventOf evLeftEvent evRightEvent evSize evCrossings evSegmentsNow grDegree grEdges grFar grQueue grQueued huX huY huSize huBestX huBestY S mThrown mWorld mImage mDraft mEarlier mRemembered mHasImage mIsLaid mOne mTwo mShare mX mY mD mEventX mEventY mEventD mEvents mCrossingOf mBundle mEventOf mDegree mFrom mTo mCrossings mEdges mMet mUpper mLower mTape mTaped mPoint mEnd mBegin mFaultAt mFive mTold mActs mFar mViews mHullX mHullY mEndX mEndY mHeightUp mHeightLow mMeets mMeetsOf → va_P (xsD X) vwCl (wK X kIsKept kIsStale hiLatest hiSize scBytes scTold scLength scFault scAt scNumber piSegmentsNow enKind enX enY enLower enFromX enFromY enToX enToY tiTouching tiLyingAlong tiMeetingPairs tiAlongPairs tiSize evX evY evLower evBundle evCrossingOf evEventOf evLeftEvent evRightEvent evSize evCrossings evSegmentsNow grDegree grEdges grFar grQueue grQueued huX huY huSize huBestX huBestY S (xsOc X ou :: wM X mThrown mWorld mImage mDraft mEarlier mRemembered mHasImage mIsLaid mOne mTwo mShare mX mY mD mEventX mEventY mEventD mEvents mCrossingOf mBundle mEventOf mDegree mFrom mTo mCrossings mEdges mMet mUpper mLower mTape mTaped mPoint mEnd mBegin mFaultAt mFive mTold mActs mFar mViews mHullX mHullY mEndX mEndY mHeightUp mHeightLow mMeets mMeetsOf [])) H → va_D (xsF X) (wK X kIsKept kIsStale hiLatest hiSize scBytes scTold scLength scFault scAt scNumber piSegmentsNow enKind enX enY enLower enFromX enFromY enToX enToY tiTouching tiLyingAlong tiMeetingPairs tiAlongPairs tiSize evX evY evLower evBundle evCrossingOf evEventOf evLeftEvent evRightEvent evSize evCrossings evSegmentsNow grDegree grEdges grFar grQueue grQueued huX huY huSize huBestX huBestY S (xsOc X ou :: wM X mThrown mWorld mImage mDraft mEarlier mRemembered mHasImage mIsLaid mOne mTwo mShare mX mY mD mEventX mEventY mEventD mEvents mCrossingOf mBundle mEventOf mDegree mFrom mTo mCrossings mEdges mMet mUpper mLower mTape mTaped mPoint mEnd mBegin mFaultAt mFive mTold mActs mFar mViews mHullX mHullY mEndX mEndY mHeightUp mHeightLow mMeets mMeetsOf [])) → va_S (xsF X) s.heap H locs → lv_has ls 8 [(4, .int i), (3, .ref (xsA X 131)), (2, .ref (xsA X 100)), (1, .ref (xsA X 0)), (0, .ref b)] → W p l e room_1 s m #[.ref b] below meth c H locs (C0 + 5) (D0 + 30) Q (F0 m 2175 ls [])) :
    W p l e room_1 s m #[.ref b] below meth c H locs C0 D0 Q (F0 m 1003 ls []) := by
  have hx := C.1
  have hb := C.2.1
  obtain ⟨out, mo, ef, em, hor⟩ := hp hR v1 v2
  rcases hor with ⟨tt, eo, ea, et, hR⟩ | ⟨n, tt, eo, en, et, hR⟩
  · subst eo
    refine lv_aload_n hx hb dL_law_1003 rfl (lv_at hl 3 rfl) ?_
    refine lv_aload_n hx hb dL_law_1004 rfl (lv_at hl 4 rfl) ?_
    refine lv_iload hx hb dL_law_1005 (lv_at hl 0 rfl) ?_
    refine lv_iconst (v := (1 : Int32)) hx hb dL_law_1007 (by decide) ?_
    refine lv_iadd hx hb dL_law_1008 ?_
    refine xs_lld C hX hbz hbl hS hi1 dL_law_1009 ?_
    refine lv_aload_n hx hb dL_law_1010 rfl (lv_at hl 4 rfl) ?_
    refine lv_iload hx hb dL_law_1011 (lv_at hl 0 rfl) ?_
    refine lv_iconst (v := (2 : Int32)) hx hb dL_law_1013 (by decide) ?_
    refine lv_iadd hx hb dL_law_1014 ?_
    refine xs_lld C hX hbz hbl hS hi2 dL_law_1015 ?_
    refine lv_aload_n hx hb dL_law_1016 rfl (lv_at hl 1 rfl) ?_
    refine xs_lcalli hS (xs_lrunS (As := [.ref (xsA X 0), .int v1, .int v2, .ref (xsA X 131)]) (rest := []) C (mL_crossing l hst (xs_eta (S 0)) ef (fun n tt h => by cases h)) w_1162 w_1163 w_104 w_1164 hd_L_crossing (xsRmL hcs (by decide) (by decide) (by decide) (by decide)) hP hD hS hl.1 rfl (Nat.le_of_ble_eq_true rfl) dL_law_1017) (fun r u H locs hq hP hD hS => ?_)
    rcases hq with ⟨tx, e1, e2, e3⟩ | ⟨n, tx, e1, e2, e3⟩
    · cases e1
      subst e3
      subst e2
      refine lv_istore (lv' := [(5, .int 0), (4, .int i), (3, .ref (xsA X 131)), (2, .ref (xsA X 100)), (1, .ref (xsA X 0)), (0, .ref b)]) hx hb dL_law_1020 hl (by decide) rfl (fun ls hl => ?_)
      refine lv_aload_n hx hb dL_law_1022 rfl (lv_at hl 3 rfl) ?_
      refine lv_aload_n hx hb dL_law_1023 rfl (lv_at hl 5 rfl) ?_
      refine lv_iload hx hb dL_law_1024 (lv_at hl 1 rfl) ?_
      refine lv_iconst (v := (1 : Int32)) hx hb dL_law_1026 (by decide) ?_
      refine lv_iadd hx hb dL_law_1027 ?_
      refine xs_lld C hX hbz hbl hS hi1 dL_law_1028 ?_
      refine lv_aload_n hx hb dL_law_1029 rfl (lv_at hl 5 rfl) ?_
      refine lv_iload hx hb dL_law_1030 (lv_at hl 1 rfl) ?_
      refine lv_iconst (v := (2 : Int32)) hx hb dL_law_1032 (by decide) ?_
      refine lv_iadd hx hb dL_law_1033 ?_
      refine xs_lld C hX hbz hbl hS hi2 dL_law_1034 ?_
      replace hP := xs_toM hP
      replace hD := xs_toMD hD
      refine xs_calll hS (xs_runV (As := [.int v1, .int v2]) (rest := []) C (mX11_crossing l em) w_1774 w_1775 w_1776 w_115 w_1777 hd_X11_crossing (xsRmB hcs (by decide) (by decide) (by decide) (by decide)) hP hD hS lk_X11 rfl hl.1 rfl (Nat.le_of_ble_eq_true rfl) dL_law_1035) (fun H locs hP hD hS => ?_)
      refine lv_lstore (lv' := [(6, .long mo.1), (5, .int 0), (4, .int i), (3, .ref (xsA X 131)), (2, .ref (xsA X 100)), (1, .ref (xsA X 0)), (0, .ref b)]) hx hb dL_law_1038 hl (by decide) rfl (fun ls hl => ?_)
      refine lv_aload_n hx hb dL_law_1040 rfl (lv_at hl 4 rfl) ?_
      refine xs_calli hS (xs_runV (As := []) (rest := []) C (mX11_thrown l rfl) w_1343 w_1344 w_1345 w_115 w_1346 hd_X11_thrown (xsRmB hcs (by decide) (by decide) (by decide) (by decide)) hP hD hS lk_X11 rfl hl.1 rfl (Nat.le_of_ble_eq_true rfl) dL_law_1041) (fun H locs hP hD hS => ?_)
      replace hP := xs_toK hP
      replace hD := xs_toKD hD
      refine lv_iload hx hb dL_law_1044 (lv_at hl 1 rfl) ?_
      refine lv_icmp_eq (tgt := 1051) hx hb dL_law_1046 (by decide) (fun _ => ?_) (fun q => absurd et q)
      refine lv_iload hx hb dL_law_1051 (lv_at hl 1 rfl) ?_
      refine lv_if_ne (tgt := 1067) hx hb dL_law_1053 (by decide) (fun q => absurd rfl q) (fun _ => ?_)
      refine lv_aload_n hx hb dL_law_1056 rfl (lv_at hl 3 rfl) ?_
      refine lv_iconst (v := (0 : Int32)) hx hb dL_law_1057 (by decide) ?_
      refine xs_lald C hP (q0 := 99) rfl (vp_in_nI (n := 0) (by decide) (by decide)) dL_law_1058 ?_
      refine lv_lload hx hb dL_law_1059 (lv_at hl 0 rfl) ?_
      refine xs_lcmp_eq (tgt := 1067) C dL_law_1061 dL_law_1062 (by decide) (fun _ => ?_) (fun q => absurd (xs_ou0 ea) q)
      refine lv_goto (tgt := 2175) hx hb dL_law_1067 (by decide) ?_
      exact W.widen (Nat.add_le_add_left (by decide) _) (Nat.add_le_add_left (by decide) _) (kk hR hP hD hS (lv_sub hl [2, 3, 4, 5, 6] rfl))
    · cases e1
  · subst eo
    refine lv_aload_n hx hb dL_law_1003 rfl (lv_at hl 3 rfl) ?_
    refine lv_aload_n hx hb dL_law_1004 rfl (lv_at hl 4 rfl) ?_
    refine lv_iload hx hb dL_law_1005 (lv_at hl 0 rfl) ?_
    refine lv_iconst (v := (1 : Int32)) hx hb dL_law_1007 (by decide) ?_
    refine lv_iadd hx hb dL_law_1008 ?_
    refine xs_lld C hX hbz hbl hS hi1 dL_law_1009 ?_
    refine lv_aload_n hx hb dL_law_1010 rfl (lv_at hl 4 rfl) ?_
    refine lv_iload hx hb dL_law_1011 (lv_at hl 0 rfl) ?_
    refine lv_iconst (v := (2 : Int32)) hx hb dL_law_1013 (by decide) ?_
    refine lv_iadd hx hb dL_law_1014 ?_
    refine xs_lld C hX hbz hbl hS hi2 dL_law_1015 ?_
    refine lv_aload_n hx hb dL_law_1016 rfl (lv_at hl 1 rfl) ?_
    refine xs_lcalli hS (xs_lrunS (As := [.ref (xsA X 0), .int v1, .int v2, .ref (xsA X 131)]) (rest := []) C (mL_crossing l hst (xs_eta (S 0)) ef (fun n2 t2 h => by cases h; exact en)) w_1162 w_1163 w_104 w_1164 hd_L_crossing (xsRmL hcs (by decide) (by decide) (by decide) (by decide)) hP hD hS hl.1 rfl (Nat.le_of_ble_eq_true rfl) dL_law_1017) (fun r u H locs hq hP hD hS => ?_)
    rcases hq with ⟨tx, e1, e2, e3⟩ | ⟨n2, tx, e1, e2, e3⟩
    · cases e1
    · cases e1
      subst e3
      have ekn : ¬ r = 0 := by rw [e2]; rcases en with rfl | rfl <;> decide
      replace et := et.trans e2.symm
      refine lv_istore (lv' := [(5, .int r), (4, .int i), (3, .ref (xsA X 131)), (2, .ref (xsA X 100)), (1, .ref (xsA X 0)), (0, .ref b)]) hx hb dL_law_1020 hl (by decide) rfl (fun ls hl => ?_)
      refine lv_aload_n hx hb dL_law_1022 rfl (lv_at hl 3 rfl) ?_
      refine lv_aload_n hx hb dL_law_1023 rfl (lv_at hl 5 rfl) ?_
      refine lv_iload hx hb dL_law_1024 (lv_at hl 1 rfl) ?_
      refine lv_iconst (v := (1 : Int32)) hx hb dL_law_1026 (by decide) ?_
      refine lv_iadd hx hb dL_law_1027 ?_
      refine xs_lld C hX hbz hbl hS hi1 dL_law_1028 ?_
      refine lv_aload_n hx hb dL_law_1029 rfl (lv_at hl 5 rfl) ?_
      refine lv_iload hx hb dL_law_1030 (lv_at hl 1 rfl) ?_
      refine lv_iconst (v := (2 : Int32)) hx hb dL_law_1032 (by decide) ?_
      refine lv_iadd hx hb dL_law_1033 ?_
      refine xs_lld C hX hbz hbl hS hi2 dL_law_1034 ?_
      replace hP := xs_toM hP
      replace hD := xs_toMD hD
      refine xs_calll hS (xs_runV (As := [.int v1, .int v2]) (rest := []) C (mX11_crossing l em) w_1774 w_1775 w_1776 w_115 w_1777 hd_X11_crossing (xsRmB hcs (by decide) (by decide) (by decide) (by decide)) hP hD hS lk_X11 rfl hl.1 rfl (Nat.le_of_ble_eq_true rfl) dL_law_1035) (fun H locs hP hD hS => ?_)
      refine lv_lstore (lv' := [(6, .long mo.1), (5, .int r), (4, .int i), (3, .ref (xsA X 131)), (2, .ref (xsA X 100)), (1, .ref (xsA X 0)), (0, .ref b)]) hx hb dL_law_1038 hl (by decide) rfl (fun ls hl => ?_)
      refine lv_aload_n hx hb dL_law_1040 rfl (lv_at hl 4 rfl) ?_
      refine xs_calli hS (xs_runV (As := []) (rest := []) C (mX11_thrown l rfl) w_1343 w_1344 w_1345 w_115 w_1346 hd_X11_thrown (xsRmB hcs (by decide) (by decide) (by decide) (by decide)) hP hD hS lk_X11 rfl hl.1 rfl (Nat.le_of_ble_eq_true rfl) dL_law_1041) (fun H locs hP hD hS => ?_)
      replace hP := xs_toK hP
      replace hD := xs_toKD hD
      refine lv_iload hx hb dL_law_1044 (lv_at hl 1 rfl) ?_
      refine lv_icmp_eq (tgt := 1051) hx hb dL_law_1046 (by decide) (fun _ => ?_) (fun q => absurd et q)
      refine lv_iload hx hb dL_law_1051 (lv_at hl 1 rfl) ?_
      refine lv_if_ne (tgt := 1067) hx hb dL_law_1053 (by decide) (fun _ => ?_) (fun q => absurd q (ekn))
      refine lv_goto (tgt := 2175) hx hb dL_law_1067 (by decide) ?_
      exact W.widen (Nat.add_le_add_left (by decide) _) (Nat.add_le_add_left (by decide) _) (kk hR hP hD hS (lv_sub hl [2, 3, 4, 5, 6] rfl))
set_option maxRecDepth 100000 in
set_option maxHeartbeats 8000000 in
theorem lc_event {Rl : xsRel} (l : Launch) (hst : l.stackTraces = false) (hp : pc_event Rl) {i v1 v2 v3 v4 v5 : Int32} (C : xsC p s m c cL_law #[.ref b] RL 8 X) (hX : va_X b L xs s s.heap) (hbz : b < xsZ X) (hbl : b < s.heap.size) (hi1 : vp_in (i + 1) L ∧ xs (i + 1).toNatClampNeg = v1) (hi2 : vp_in (i + 2) L ∧ xs (i + 2).toNatClampNeg = v2) (hi3 : vp_in (i + 3) L ∧ xs (i + 3).toNatClampNeg = v3) (hi4 : vp_in (i + 4) L ∧ xs (i + 4).toNatClampNeg = v4) (hi5 : vp_in (i + 5) L ∧ xs (i + 5).toNatClampNeg = v5) (hcs : xsRmC C0 D0) (hP : va_P (xsD X) vwCl (wK X kIsKept kIsStale hiLatest hiSize scBytes scTold scLength scFault scAt scNumber piSegmentsNow enKind enX enY enLower enFromX enFromY enToX enToY tiTouching tiLyingAlong tiMeetingPairs tiAlongPairs tiSize evX evY evLower evBundle evCrossingOf evEventOf evLeftEvent evRightEvent evSize evCrossings evSegmentsNow grDegree grEdges grFar grQueue grQueued huX huY huSize huBestX huBestY S (xsOc X ou :: wM X mThrown mWorld mImage mDraft mEarlier mRemembered mHasImage mIsLaid mOne mTwo mShare mX mY mD mEventX mEventY mEventD mEvents mCrossingOf mBundle mEventOf mDegree mFrom mTo mCrossings mEdges mMet mUpper mLower mTape mTaped mPoint mEnd mBegin mFaultAt mFive mTold mActs mFar mViews mHullX mHullY mEndX mEndY mHeightUp mHeightLow mMeets mMeetsOf [])) H) (hD : va_D (xsF X) (wK X kIsKept kIsStale hiLatest hiSize scBytes scTold scLength scFault scAt scNumber piSegmentsNow enKind enX enY enLower enFromX enFromY enToX enToY tiTouching tiLyingAlong tiMeetingPairs tiAlongPairs tiSize evX evY evLower evBundle evCrossingOf evEventOf evLeftEvent evRightEvent evSize evCrossings evSegmentsNow grDegree grEdges grFar grQueue grQueued huX huY huSize huBestX huBestY S (xsOc X ou :: wM X mThrown mWorld mImage mDraft mEarlier mRemembered mHasImage mIsLaid mOne mTwo mShare mX mY mD mEventX mEventY mEventD mEvents mCrossingOf mBundle mEventOf mDegree mFrom mTo mCrossings mEdges mMet mUpper mLower mTape mTaped mPoint mEnd mBegin mFaultAt mFive mTold mActs mFar mViews mHullX mHullY mEndX mEndY mHeightUp mHeightLow mMeets mMeetsOf []))) (hS : va_S (xsF X) s.heap H locs) (hl : lv_has ls 8 [(4, .int i), (3, .ref (xsA X 131)), (2, .ref (xsA X 100)), (1, .ref (xsA X 0)), (0, .ref b)]) (hR : Rl kIsKept kIsStale hiLatest hiSize scBytes scTold scLength scFault scAt scNumber piSegmentsNow enKind enX enY enLower enFromX enFromY enToX enToY tiTouching tiLyingAlong tiMeetingPairs tiAlongPairs tiSize evX evY evLower evBundle evCrossingOf evEventOf evLeftEvent evRightEvent evSize evCrossings evSegmentsNow grDegree grEdges grFar grQueue grQueued huX huY huSize huBestX huBestY S mThrown mWorld mImage mDraft mEarlier mRemembered mHasImage mIsLaid mOne mTwo mShare mX mY mD mEventX mEventY mEventD mEvents mCrossingOf mBundle mEventOf mDegree mFrom mTo mCrossings mEdges mMet mUpper mLower mTape mTaped mPoint mEnd mBegin mFaultAt mFive mTold mActs mFar mViews mHullX mHullY mEndX mEndY mHeightUp mHeightLow mMeets mMeetsOf)
    (kk : ∀ {kIsKept kIsStale hiLatest hiSize scLength scFault scAt scNumber piSegmentsNow enKind enFromX enFromY enToX enToY tiMeetingPairs tiAlongPairs tiSize evSize evCrossings evSegmentsNow grEdges grQueued huSize huBestX huBestY : Int32} {scBytes scTold tiTouching tiLyingAlong evBundle evCrossingOf evEventOf evLeftEvent evRightEvent grDegree grFar grQueue huX huY : Nat → Int32} {enX enY enLower : Int64} {evX evY evLower : Nat → Int64} {S : Nat → xsV} {mThrown mRemembered mHasImage mIsLaid mEvents mCrossings mEdges mTaped mPoint mEnd mBegin mFaultAt mActs : Int32} {mWorld mImage mDraft mEarlier mOne mTwo mShare mCrossingOf mBundle mEventOf mDegree mFrom mTo mMet mTape mFive mTold mFar mViews mHullX mHullY mEndX mEndY mMeets mMeetsOf : Nat → Int32} {mX mY mD mHeightUp mHeightLow : Int64} {mEventX mEventY mEventD mUpper mLower : Nat → Int64} {ou : Nat → Int64} {ls : Array Slot} {H : Heap} {locs : List Loc}, Rl kIsKept kIsStale hiLatest hiSize scBytes scTold scLength scFault scAt scNumber piSegmentsNow enKind enX enY enLower enFromX enFromY enToX enToY tiTouching tiLyingAlong tiMeetingPairs tiAlongPairs tiSize evX evY evLower evBundle evCrossingOf evEventOf evLeftEvent evRightEvent evSize evCrossings evSegmentsNow grDegree grEdges grFar grQueue grQueued huX huY huSize huBestX huBestY S mThrown mWorld mImage mDraft mEarlier mRemembered mHasImage mIsLaid mOne mTwo mShare mX mY mD mEventX mEventY mEventD mEvents mCrossingOf mBundle mEventOf mDegree mFrom mTo mCrossings mEdges mMet mUpper mLower mTape mTaped mPoint mEnd mBegin mFaultAt mFive mTold mActs mFar mViews mHullX mHullY mEndX mEndY mHeightUp mHeightLow mMeets mMeetsOf → va_P (xsD X) vwCl (wK X kIsKept kIsStale hiLatest hiSize scBytes scTold scLength scFault scAt scNumber piSegmentsNow enKind enX enY enLower enFromX enFromY enToX enToY tiTouching tiLyingAlong tiMeetingPairs tiAlongPairs tiSize evX evY evLower evBundle evCrossingOf evEventOf evLeftEvent evRightEvent evSize evCrossings evSegmentsNow grDegree grEdges grFar grQueue grQueued huX huY huSize huBestX huBestY S (xsOc X ou :: wM X mThrown mWorld mImage mDraft mEarlier mRemembered mHasImage mIsLaid mOne mTwo mShare mX mY mD mEventX mEventY mEventD mEvents mCrossingOf mBundle mEventOf mDegree mFrom mTo mCrossings mEdges mMet mUpper mLower mTape mTaped mPoint mEnd mBegin mFaultAt mFive mTold mActs mFar mViews mHullX mHullY mEndX mEndY mHeightUp mHeightLow mMeets mMeetsOf [])) H → va_D (xsF X) (wK X kIsKept kIsStale hiLatest hiSize scBytes scTold scLength scFault scAt scNumber piSegmentsNow enKind enX enY enLower enFromX enFromY enToX enToY tiTouching tiLyingAlong tiMeetingPairs tiAlongPairs tiSize evX evY evLower evBundle evCrossingOf evEventOf evLeftEvent evRightEvent evSize evCrossings evSegmentsNow grDegree grEdges grFar grQueue grQueued huX huY huSize huBestX huBestY S (xsOc X ou :: wM X mThrown mWorld mImage mDraft mEarlier mRemembered mHasImage mIsLaid mOne mTwo mShare mX mY mD mEventX mEventY mEventD mEvents mCrossingOf mBundle mEventOf mDegree mFrom mTo mCrossings mEdges mMet mUpper mLower mTape mTaped mPoint mEnd mBegin mFaultAt mFive mTold mActs mFar mViews mHullX mHullY mEndX mEndY mHeightUp mHeightLow mMeets mMeetsOf [])) → va_S (xsF X) s.heap H locs → lv_has ls 8 [(4, .int i), (3, .ref (xsA X 131)), (2, .ref (xsA X 100)), (1, .ref (xsA X 0)), (0, .ref b)] → W p l e room_1 s m #[.ref b] below meth c H locs (C0 + 5) (D0 + 30) Q (F0 m 2175 ls [])) :
    W p l e room_1 s m #[.ref b] below meth c H locs C0 D0 Q (F0 m 1070 ls []) := by
  have hx := C.1
  have hb := C.2.1
  obtain ⟨out, mo, ef, em, hor⟩ := hp hR v1 v2
  rcases hor with ⟨tt, eo, ea, et, hR⟩ | ⟨n, tt, eo, en, et, hR⟩
  · subst eo
    refine lv_aload_n hx hb dL_law_1070 rfl (lv_at hl 3 rfl) ?_
    refine lv_aload_n hx hb dL_law_1071 rfl (lv_at hl 4 rfl) ?_
    refine lv_iload hx hb dL_law_1072 (lv_at hl 0 rfl) ?_
    refine lv_iconst (v := (1 : Int32)) hx hb dL_law_1074 (by decide) ?_
    refine lv_iadd hx hb dL_law_1075 ?_
    refine xs_lld C hX hbz hbl hS hi1 dL_law_1076 ?_
    refine lv_aload_n hx hb dL_law_1077 rfl (lv_at hl 4 rfl) ?_
    refine lv_iload hx hb dL_law_1078 (lv_at hl 0 rfl) ?_
    refine lv_iconst (v := (2 : Int32)) hx hb dL_law_1080 (by decide) ?_
    refine lv_iadd hx hb dL_law_1081 ?_
    refine xs_lld C hX hbz hbl hS hi2 dL_law_1082 ?_
    refine lv_aload_n hx hb dL_law_1083 rfl (lv_at hl 1 rfl) ?_
    refine xs_lcalli hS (xs_lrunS (As := [.ref (xsA X 0), .int v1, .int v2, .ref (xsA X 131)]) (rest := []) C (mL_event l hst (xs_eta (S 0)) ef (fun n tt h => by cases h)) w_1175 w_1176 w_104 w_1177 hd_L_event (xsRmL hcs (by decide) (by decide) (by decide) (by decide)) hP hD hS hl.1 rfl (Nat.le_of_ble_eq_true rfl) dL_law_1084) (fun r u H locs hq hP hD hS => ?_)
    rcases hq with ⟨tx, e1, e2, e3⟩ | ⟨n, tx, e1, e2, e3⟩
    · cases e1
      subst e3
      subst e2
      refine lv_istore (lv' := [(5, .int 0), (4, .int i), (3, .ref (xsA X 131)), (2, .ref (xsA X 100)), (1, .ref (xsA X 0)), (0, .ref b)]) hx hb dL_law_1087 hl (by decide) rfl (fun ls hl => ?_)
      refine lv_aload_n hx hb dL_law_1089 rfl (lv_at hl 3 rfl) ?_
      refine lv_aload_n hx hb dL_law_1090 rfl (lv_at hl 5 rfl) ?_
      refine lv_iload hx hb dL_law_1091 (lv_at hl 1 rfl) ?_
      refine lv_iconst (v := (1 : Int32)) hx hb dL_law_1093 (by decide) ?_
      refine lv_iadd hx hb dL_law_1094 ?_
      refine xs_lld C hX hbz hbl hS hi1 dL_law_1095 ?_
      refine lv_aload_n hx hb dL_law_1096 rfl (lv_at hl 5 rfl) ?_
      refine lv_iload hx hb dL_law_1097 (lv_at hl 1 rfl) ?_
      refine lv_iconst (v := (2 : Int32)) hx hb dL_law_1099 (by decide) ?_
      refine lv_iadd hx hb dL_law_1100 ?_
      refine xs_lld C hX hbz hbl hS hi2 dL_law_1101 ?_
      replace hP := xs_toM hP
      replace hD := xs_toMD hD
      refine xs_calll hS (xs_runV (As := [.int v1, .int v2]) (rest := []) C (mX11_event l em) w_1790 w_1791 w_1792 w_115 w_1793 hd_X11_event (xsRmB hcs (by decide) (by decide) (by decide) (by decide)) hP hD hS lk_X11 rfl hl.1 rfl (Nat.le_of_ble_eq_true rfl) dL_law_1102) (fun H locs hP hD hS => ?_)
      refine lv_lstore (lv' := [(6, .long mo.1), (5, .int 0), (4, .int i), (3, .ref (xsA X 131)), (2, .ref (xsA X 100)), (1, .ref (xsA X 0)), (0, .ref b)]) hx hb dL_law_1105 hl (by decide) rfl (fun ls hl => ?_)
      refine lv_aload_n hx hb dL_law_1107 rfl (lv_at hl 4 rfl) ?_
      refine xs_calli hS (xs_runV (As := []) (rest := []) C (mX11_thrown l rfl) w_1343 w_1344 w_1345 w_115 w_1346 hd_X11_thrown (xsRmB hcs (by decide) (by decide) (by decide) (by decide)) hP hD hS lk_X11 rfl hl.1 rfl (Nat.le_of_ble_eq_true rfl) dL_law_1108) (fun H locs hP hD hS => ?_)
      replace hP := xs_toK hP
      replace hD := xs_toKD hD
      refine lv_iload hx hb dL_law_1111 (lv_at hl 1 rfl) ?_
      refine lv_icmp_eq (tgt := 1118) hx hb dL_law_1113 (by decide) (fun _ => ?_) (fun q => absurd et q)
      refine lv_iload hx hb dL_law_1118 (lv_at hl 1 rfl) ?_
      refine lv_if_ne (tgt := 1134) hx hb dL_law_1120 (by decide) (fun q => absurd rfl q) (fun _ => ?_)
      refine lv_aload_n hx hb dL_law_1123 rfl (lv_at hl 3 rfl) ?_
      refine lv_iconst (v := (0 : Int32)) hx hb dL_law_1124 (by decide) ?_
      refine xs_lald C hP (q0 := 99) rfl (vp_in_nI (n := 0) (by decide) (by decide)) dL_law_1125 ?_
      refine lv_lload hx hb dL_law_1126 (lv_at hl 0 rfl) ?_
      refine xs_lcmp_eq (tgt := 1134) C dL_law_1128 dL_law_1129 (by decide) (fun _ => ?_) (fun q => absurd (xs_ou0 ea) q)
      refine lv_goto (tgt := 2175) hx hb dL_law_1134 (by decide) ?_
      exact W.widen (Nat.add_le_add_left (by decide) _) (Nat.add_le_add_left (by decide) _) (kk hR hP hD hS (lv_sub hl [2, 3, 4, 5, 6] rfl))
    · cases e1
  · subst eo
    refine lv_aload_n hx hb dL_law_1070 rfl (lv_at hl 3 rfl) ?_
    refine lv_aload_n hx hb dL_law_1071 rfl (lv_at hl 4 rfl) ?_
    refine lv_iload hx hb dL_law_1072 (lv_at hl 0 rfl) ?_
    refine lv_iconst (v := (1 : Int32)) hx hb dL_law_1074 (by decide) ?_
    refine lv_iadd hx hb dL_law_1075 ?_
    refine xs_lld C hX hbz hbl hS hi1 dL_law_1076 ?_
    refine lv_aload_n hx hb dL_law_1077 rfl (lv_at hl 4 rfl) ?_
    refine lv_iload hx hb dL_law_1078 (lv_at hl 0 rfl) ?_
    refine lv_iconst (v := (2 : Int32)) hx hb dL_law_1080 (by decide) ?_
    refine lv_iadd hx hb dL_law_1081 ?_
    refine xs_lld C hX hbz hbl hS hi2 dL_law_1082 ?_
    refine lv_aload_n hx hb dL_law_1083 rfl (lv_at hl 1 rfl) ?_
    refine xs_lcalli hS (xs_lrunS (As := [.ref (xsA X 0), .int v1, .int v2, .ref (xsA X 131)]) (rest := []) C (mL_event l hst (xs_eta (S 0)) ef (fun n2 t2 h => by cases h; exact en)) w_1175 w_1176 w_104 w_1177 hd_L_event (xsRmL hcs (by decide) (by decide) (by decide) (by decide)) hP hD hS hl.1 rfl (Nat.le_of_ble_eq_true rfl) dL_law_1084) (fun r u H locs hq hP hD hS => ?_)
    rcases hq with ⟨tx, e1, e2, e3⟩ | ⟨n2, tx, e1, e2, e3⟩
    · cases e1
    · cases e1
      subst e3
      have ekn : ¬ r = 0 := by rw [e2]; rcases en with rfl | rfl <;> decide
      replace et := et.trans e2.symm
      refine lv_istore (lv' := [(5, .int r), (4, .int i), (3, .ref (xsA X 131)), (2, .ref (xsA X 100)), (1, .ref (xsA X 0)), (0, .ref b)]) hx hb dL_law_1087 hl (by decide) rfl (fun ls hl => ?_)
      refine lv_aload_n hx hb dL_law_1089 rfl (lv_at hl 3 rfl) ?_
      refine lv_aload_n hx hb dL_law_1090 rfl (lv_at hl 5 rfl) ?_
      refine lv_iload hx hb dL_law_1091 (lv_at hl 1 rfl) ?_
      refine lv_iconst (v := (1 : Int32)) hx hb dL_law_1093 (by decide) ?_
      refine lv_iadd hx hb dL_law_1094 ?_
      refine xs_lld C hX hbz hbl hS hi1 dL_law_1095 ?_
      refine lv_aload_n hx hb dL_law_1096 rfl (lv_at hl 5 rfl) ?_
      refine lv_iload hx hb dL_law_1097 (lv_at hl 1 rfl) ?_
      refine lv_iconst (v := (2 : Int32)) hx hb dL_law_1099 (by decide) ?_
      refine lv_iadd hx hb dL_law_1100 ?_
      refine xs_lld C hX hbz hbl hS hi2 dL_law_1101 ?_
      replace hP := xs_toM hP
      replace hD := xs_toMD hD
      refine xs_calll hS (xs_runV (As := [.int v1, .int v2]) (rest := []) C (mX11_event l em) w_1790 w_1791 w_1792 w_115 w_1793 hd_X11_event (xsRmB hcs (by decide) (by decide) (by decide) (by decide)) hP hD hS lk_X11 rfl hl.1 rfl (Nat.le_of_ble_eq_true rfl) dL_law_1102) (fun H locs hP hD hS => ?_)
      refine lv_lstore (lv' := [(6, .long mo.1), (5, .int r), (4, .int i), (3, .ref (xsA X 131)), (2, .ref (xsA X 100)), (1, .ref (xsA X 0)), (0, .ref b)]) hx hb dL_law_1105 hl (by decide) rfl (fun ls hl => ?_)
      refine lv_aload_n hx hb dL_law_1107 rfl (lv_at hl 4 rfl) ?_
      refine xs_calli hS (xs_runV (As := []) (rest := []) C (mX11_thrown l rfl) w_1343 w_1344 w_1345 w_115 w_1346 hd_X11_thrown (xsRmB hcs (by decide) (by decide) (by decide) (by decide)) hP hD hS lk_X11 rfl hl.1 rfl (Nat.le_of_ble_eq_true rfl) dL_law_1108) (fun H locs hP hD hS => ?_)
      replace hP := xs_toK hP
      replace hD := xs_toKD hD
      refine lv_iload hx hb dL_law_1111 (lv_at hl 1 rfl) ?_
      refine lv_icmp_eq (tgt := 1118) hx hb dL_law_1113 (by decide) (fun _ => ?_) (fun q => absurd et q)
      refine lv_iload hx hb dL_law_1118 (lv_at hl 1 rfl) ?_
      refine lv_if_ne (tgt := 1134) hx hb dL_law_1120 (by decide) (fun _ => ?_) (fun q => absurd q (ekn))
      refine lv_goto (tgt := 2175) hx hb dL_law_1134 (by decide) ?_
      exact W.widen (Nat.add_le_add_left (by decide) _) (Nat.add_le_add_left (by decide) _) (kk hR hP hD hS (lv_sub hl [2, 3, 4, 5, 6] rfl))
set_option maxRecDepth 100000 in
set_option maxHeartbeats 8000000 in
theorem lc_status {Rl : xsRel} (l : Launch) (hst : l.stackTraces = false) (hp : pc_status Rl) {i v1 v2 v3 v4 v5 : Int32} (C : xsC p s m c cL_law #[.ref b] RL 8 X) (hX : va_X b L xs s s.heap) (hbz : b < xsZ X) (hbl : b < s.heap.size) (hi1 : vp_in (i + 1) L ∧ xs (i + 1).toNatClampNeg = v1) (hi2 : vp_in (i + 2) L ∧ xs (i + 2).toNatClampNeg = v2) (hi3 : vp_in (i + 3) L ∧ xs (i + 3).toNatClampNeg = v3) (hi4 : vp_in (i + 4) L ∧ xs (i + 4).toNatClampNeg = v4) (hi5 : vp_in (i + 5) L ∧ xs (i + 5).toNatClampNeg = v5) (hcs : xsRmC C0 D0) (hP : va_P (xsD X) vwCl (wK X kIsKept kIsStale hiLatest hiSize scBytes scTold scLength scFault scAt scNumber piSegmentsNow enKind enX enY enLower enFromX enFromY enToX enToY tiTouching tiLyingAlong tiMeetingPairs tiAlongPairs tiSize evX evY evLower evBundle evCrossingOf evEventOf evLeftEvent evRightEvent evSize evCrossings evSegmentsNow grDegree grEdges grFar grQueue grQueued huX huY huSize huBestX huBestY S (xsOc X ou :: wM X mThrown mWorld mImage mDraft mEarlier mRemembered mHasImage mIsLaid mOne mTwo mShare mX mY mD mEventX mEventY mEventD mEvents mCrossingOf mBundle mEventOf mDegree mFrom mTo mCrossings mEdges mMet mUpper mLower mTape mTaped mPoint mEnd mBegin mFaultAt mFive mTold mActs mFar mViews mHullX mHullY mEndX mEndY mHeightUp mHeightLow mMeets mMeetsOf [])) H) (hD : va_D (xsF X) (wK X kIsKept kIsStale hiLatest hiSize scBytes scTold scLength scFault scAt scNumber piSegmentsNow enKind enX enY enLower enFromX enFromY enToX enToY tiTouching tiLyingAlong tiMeetingPairs tiAlongPairs tiSize evX evY evLower evBundle evCrossingOf evEventOf evLeftEvent evRightEvent evSize evCrossings evSegmentsNow grDegree grEdges grFar grQueue grQueued huX huY huSize huBestX huBestY S (xsOc X ou :: wM X mThrown mWorld mImage mDraft mEarlier mRemembered mHasImage mIsLaid mOne mTwo mShare mX mY mD mEventX mEventY mEventD mEvents mCrossingOf mBundle mEventOf mDegree mFrom mTo mCrossings mEdges mMet mUpper mLower mTape mTaped mPoint mEnd mBegin mFaultAt mFive mTold mActs mFar mViews mHullX mHullY mEndX mEndY mHeightUp mHeightLow mMeets mMeetsOf []))) (hS : va_S (xsF X) s.heap H locs) (hl : lv_has ls 8 [(4, .int i), (3, .ref (xsA X 131)), (2, .ref (xsA X 100)), (1, .ref (xsA X 0)), (0, .ref b)]) (hR : Rl kIsKept kIsStale hiLatest hiSize scBytes scTold scLength scFault scAt scNumber piSegmentsNow enKind enX enY enLower enFromX enFromY enToX enToY tiTouching tiLyingAlong tiMeetingPairs tiAlongPairs tiSize evX evY evLower evBundle evCrossingOf evEventOf evLeftEvent evRightEvent evSize evCrossings evSegmentsNow grDegree grEdges grFar grQueue grQueued huX huY huSize huBestX huBestY S mThrown mWorld mImage mDraft mEarlier mRemembered mHasImage mIsLaid mOne mTwo mShare mX mY mD mEventX mEventY mEventD mEvents mCrossingOf mBundle mEventOf mDegree mFrom mTo mCrossings mEdges mMet mUpper mLower mTape mTaped mPoint mEnd mBegin mFaultAt mFive mTold mActs mFar mViews mHullX mHullY mEndX mEndY mHeightUp mHeightLow mMeets mMeetsOf)
    (kk : ∀ {kIsKept kIsStale hiLatest hiSize scLength scFault scAt scNumber piSegmentsNow enKind enFromX enFromY enToX enToY tiMeetingPairs tiAlongPairs tiSize evSize evCrossings evSegmentsNow grEdges grQueued huSize huBestX huBestY : Int32} {scBytes scTold tiTouching tiLyingAlong evBundle evCrossingOf evEventOf evLeftEvent evRightEvent grDegree grFar grQueue huX huY : Nat → Int32} {enX enY enLower : Int64} {evX evY evLower : Nat → Int64} {S : Nat → xsV} {mThrown mRemembered mHasImage mIsLaid mEvents mCrossings mEdges mTaped mPoint mEnd mBegin mFaultAt mActs : Int32} {mWorld mImage mDraft mEarlier mOne mTwo mShare mCrossingOf mBundle mEventOf mDegree mFrom mTo mMet mTape mFive mTold mFar mViews mHullX mHullY mEndX mEndY mMeets mMeetsOf : Nat → Int32} {mX mY mD mHeightUp mHeightLow : Int64} {mEventX mEventY mEventD mUpper mLower : Nat → Int64} {ou : Nat → Int64} {ls : Array Slot} {H : Heap} {locs : List Loc}, Rl kIsKept kIsStale hiLatest hiSize scBytes scTold scLength scFault scAt scNumber piSegmentsNow enKind enX enY enLower enFromX enFromY enToX enToY tiTouching tiLyingAlong tiMeetingPairs tiAlongPairs tiSize evX evY evLower evBundle evCrossingOf evEventOf evLeftEvent evRightEvent evSize evCrossings evSegmentsNow grDegree grEdges grFar grQueue grQueued huX huY huSize huBestX huBestY S mThrown mWorld mImage mDraft mEarlier mRemembered mHasImage mIsLaid mOne mTwo mShare mX mY mD mEventX mEventY mEventD mEvents mCrossingOf mBundle mEventOf mDegree mFrom mTo mCrossings mEdges mMet mUpper mLower mTape mTaped mPoint mEnd mBegin mFaultAt mFive mTold mActs mFar mViews mHullX mHullY mEndX mEndY mHeightUp mHeightLow mMeets mMeetsOf → va_P (xsD X) vwCl (wK X kIsKept kIsStale hiLatest hiSize scBytes scTold scLength scFault scAt scNumber piSegmentsNow enKind enX enY enLower enFromX enFromY enToX enToY tiTouching tiLyingAlong tiMeetingPairs tiAlongPairs tiSize evX evY evLower evBundle evCrossingOf evEventOf evLeftEvent evRightEvent evSize evCrossings evSegmentsNow grDegree grEdges grFar grQueue grQueued huX huY huSize huBestX huBestY S (xsOc X ou :: wM X mThrown mWorld mImage mDraft mEarlier mRemembered mHasImage mIsLaid mOne mTwo mShare mX mY mD mEventX mEventY mEventD mEvents mCrossingOf mBundle mEventOf mDegree mFrom mTo mCrossings mEdges mMet mUpper mLower mTape mTaped mPoint mEnd mBegin mFaultAt mFive mTold mActs mFar mViews mHullX mHullY mEndX mEndY mHeightUp mHeightLow mMeets mMeetsOf [])) H → va_D (xsF X) (wK X kIsKept kIsStale hiLatest hiSize scBytes scTold scLength scFault scAt scNumber piSegmentsNow enKind enX enY enLower enFromX enFromY enToX enToY tiTouching tiLyingAlong tiMeetingPairs tiAlongPairs tiSize evX evY evLower evBundle evCrossingOf evEventOf evLeftEvent evRightEvent evSize evCrossings evSegmentsNow grDegree grEdges grFar grQueue grQueued huX huY huSize huBestX huBestY S (xsOc X ou :: wM X mThrown mWorld mImage mDraft mEarlier mRemembered mHasImage mIsLaid mOne mTwo mShare mX mY mD mEventX mEventY mEventD mEvents mCrossingOf mBundle mEventOf mDegree mFrom mTo mCrossings mEdges mMet mUpper mLower mTape mTaped mPoint mEnd mBegin mFaultAt mFive mTold mActs mFar mViews mHullX mHullY mEndX mEndY mHeightUp mHeightLow mMeets mMeetsOf [])) → va_S (xsF X) s.heap H locs → lv_has ls 8 [(4, .int i), (3, .ref (xsA X 131)), (2, .ref (xsA X 100)), (1, .ref (xsA X 0)), (0, .ref b)] → W p l e room_1 s m #[.ref b] below meth c H locs (C0 + 5) (D0 + 30) Q (F0 m 2175 ls [])) :
    W p l e room_1 s m #[.ref b] below meth c H locs C0 D0 Q (F0 m 1137 ls []) := by
  have hx := C.1
  have hb := C.2.1
  obtain ⟨out, mo, ef, em, hor⟩ := hp hR v1 v2
  rcases hor with ⟨tt, eo, ea, et, hR⟩ | ⟨n, tt, eo, en, et, hR⟩
  · subst eo
    refine lv_aload_n hx hb dL_law_1137 rfl (lv_at hl 3 rfl) ?_
    refine lv_aload_n hx hb dL_law_1138 rfl (lv_at hl 4 rfl) ?_
    refine lv_iload hx hb dL_law_1139 (lv_at hl 0 rfl) ?_
    refine lv_iconst (v := (1 : Int32)) hx hb dL_law_1141 (by decide) ?_
    refine lv_iadd hx hb dL_law_1142 ?_
    refine xs_lld C hX hbz hbl hS hi1 dL_law_1143 ?_
    refine lv_aload_n hx hb dL_law_1144 rfl (lv_at hl 4 rfl) ?_
    refine lv_iload hx hb dL_law_1145 (lv_at hl 0 rfl) ?_
    refine lv_iconst (v := (2 : Int32)) hx hb dL_law_1147 (by decide) ?_
    refine lv_iadd hx hb dL_law_1148 ?_
    refine xs_lld C hX hbz hbl hS hi2 dL_law_1149 ?_
    refine lv_aload_n hx hb dL_law_1150 rfl (lv_at hl 1 rfl) ?_
    refine xs_lcalli hS (xs_lrunS (As := [.ref (xsA X 0), .int v1, .int v2, .ref (xsA X 131)]) (rest := []) C (mL_status l hst (xs_eta (S 0)) ef (fun n tt h => by cases h)) w_1186 w_1187 w_104 w_1188 hd_L_status (xsRmL hcs (by decide) (by decide) (by decide) (by decide)) hP hD hS hl.1 rfl (Nat.le_of_ble_eq_true rfl) dL_law_1151) (fun r u H locs hq hP hD hS => ?_)
    rcases hq with ⟨tx, e1, e2, e3⟩ | ⟨n, tx, e1, e2, e3⟩
    · cases e1
      subst e3
      subst e2
      refine lv_istore (lv' := [(5, .int 0), (4, .int i), (3, .ref (xsA X 131)), (2, .ref (xsA X 100)), (1, .ref (xsA X 0)), (0, .ref b)]) hx hb dL_law_1154 hl (by decide) rfl (fun ls hl => ?_)
      refine lv_aload_n hx hb dL_law_1156 rfl (lv_at hl 3 rfl) ?_
      refine lv_aload_n hx hb dL_law_1157 rfl (lv_at hl 5 rfl) ?_
      refine lv_iload hx hb dL_law_1158 (lv_at hl 1 rfl) ?_
      refine lv_iconst (v := (1 : Int32)) hx hb dL_law_1160 (by decide) ?_
      refine lv_iadd hx hb dL_law_1161 ?_
      refine xs_lld C hX hbz hbl hS hi1 dL_law_1162 ?_
      refine lv_aload_n hx hb dL_law_1163 rfl (lv_at hl 5 rfl) ?_
      refine lv_iload hx hb dL_law_1164 (lv_at hl 1 rfl) ?_
      refine lv_iconst (v := (2 : Int32)) hx hb dL_law_1166 (by decide) ?_
      refine lv_iadd hx hb dL_law_1167 ?_
      refine xs_lld C hX hbz hbl hS hi2 dL_law_1168 ?_
      replace hP := xs_toM hP
      replace hD := xs_toMD hD
      refine xs_calli hS (xs_runV (As := [.int v1, .int v2]) (rest := []) C (mX11_status l em) w_1819 w_1820 w_1821 w_115 w_1822 hd_X11_status (xsRmB hcs (by decide) (by decide) (by decide) (by decide)) hP hD hS lk_X11 rfl hl.1 rfl (Nat.le_of_ble_eq_true rfl) dL_law_1169) (fun H locs hP hD hS => ?_)
      refine lv_istore (lv' := [(6, .int mo.1), (5, .int 0), (4, .int i), (3, .ref (xsA X 131)), (2, .ref (xsA X 100)), (1, .ref (xsA X 0)), (0, .ref b)]) hx hb dL_law_1172 hl (by decide) rfl (fun ls hl => ?_)
      refine lv_aload_n hx hb dL_law_1174 rfl (lv_at hl 4 rfl) ?_
      refine xs_calli hS (xs_runV (As := []) (rest := []) C (mX11_thrown l rfl) w_1343 w_1344 w_1345 w_115 w_1346 hd_X11_thrown (xsRmB hcs (by decide) (by decide) (by decide) (by decide)) hP hD hS lk_X11 rfl hl.1 rfl (Nat.le_of_ble_eq_true rfl) dL_law_1175) (fun H locs hP hD hS => ?_)
      replace hP := xs_toK hP
      replace hD := xs_toKD hD
      refine lv_iload hx hb dL_law_1178 (lv_at hl 1 rfl) ?_
      refine lv_icmp_eq (tgt := 1185) hx hb dL_law_1180 (by decide) (fun _ => ?_) (fun q => absurd et q)
      refine lv_iload hx hb dL_law_1185 (lv_at hl 1 rfl) ?_
      refine lv_if_ne (tgt := 1202) hx hb dL_law_1187 (by decide) (fun q => absurd rfl q) (fun _ => ?_)
      refine lv_aload_n hx hb dL_law_1190 rfl (lv_at hl 3 rfl) ?_
      refine lv_iconst (v := (0 : Int32)) hx hb dL_law_1191 (by decide) ?_
      refine xs_lald C hP (q0 := 99) rfl (vp_in_nI (n := 0) (by decide) (by decide)) dL_law_1192 ?_
      refine lv_iload hx hb dL_law_1193 (lv_at hl 0 rfl) ?_
      refine lv_i2l hx hb dL_law_1195 rfl ?_
      refine xs_lcmp_eq (tgt := 1202) C dL_law_1196 dL_law_1197 (by decide) (fun _ => ?_) (fun q => absurd (xs_ou0 (congrArg Int32.toInt64 ea)) q)
      refine lv_goto (tgt := 2175) hx hb dL_law_1202 (by decide) ?_
      exact W.widen (Nat.add_le_add_left (by decide) _) (Nat.add_le_add_left (by decide) _) (kk hR hP hD hS (lv_sub hl [2, 3, 4, 5, 6] rfl))
    · cases e1
  · subst eo
    refine lv_aload_n hx hb dL_law_1137 rfl (lv_at hl 3 rfl) ?_
    refine lv_aload_n hx hb dL_law_1138 rfl (lv_at hl 4 rfl) ?_
    refine lv_iload hx hb dL_law_1139 (lv_at hl 0 rfl) ?_
    refine lv_iconst (v := (1 : Int32)) hx hb dL_law_1141 (by decide) ?_
    refine lv_iadd hx hb dL_law_1142 ?_
    refine xs_lld C hX hbz hbl hS hi1 dL_law_1143 ?_
    refine lv_aload_n hx hb dL_law_1144 rfl (lv_at hl 4 rfl) ?_
    refine lv_iload hx hb dL_law_1145 (lv_at hl 0 rfl) ?_
    refine lv_iconst (v := (2 : Int32)) hx hb dL_law_1147 (by decide) ?_
    refine lv_iadd hx hb dL_law_1148 ?_
    refine xs_lld C hX hbz hbl hS hi2 dL_law_1149 ?_
    refine lv_aload_n hx hb dL_law_1150 rfl (lv_at hl 1 rfl) ?_
    refine xs_lcalli hS (xs_lrunS (As := [.ref (xsA X 0), .int v1, .int v2, .ref (xsA X 131)]) (rest := []) C (mL_status l hst (xs_eta (S 0)) ef (fun n2 t2 h => by cases h; exact en)) w_1186 w_1187 w_104 w_1188 hd_L_status (xsRmL hcs (by decide) (by decide) (by decide) (by decide)) hP hD hS hl.1 rfl (Nat.le_of_ble_eq_true rfl) dL_law_1151) (fun r u H locs hq hP hD hS => ?_)
    rcases hq with ⟨tx, e1, e2, e3⟩ | ⟨n2, tx, e1, e2, e3⟩
    · cases e1
    · cases e1
      subst e3
      have ekn : ¬ r = 0 := by rw [e2]; rw [en]; decide
      replace et := et.trans e2.symm
      refine lv_istore (lv' := [(5, .int r), (4, .int i), (3, .ref (xsA X 131)), (2, .ref (xsA X 100)), (1, .ref (xsA X 0)), (0, .ref b)]) hx hb dL_law_1154 hl (by decide) rfl (fun ls hl => ?_)
      refine lv_aload_n hx hb dL_law_1156 rfl (lv_at hl 3 rfl) ?_
      refine lv_aload_n hx hb dL_law_1157 rfl (lv_at hl 5 rfl) ?_
      refine lv_iload hx hb dL_law_1158 (lv_at hl 1 rfl) ?_
      refine lv_iconst (v := (1 : Int32)) hx hb dL_law_1160 (by decide) ?_
      refine lv_iadd hx hb dL_law_1161 ?_
      refine xs_lld C hX hbz hbl hS hi1 dL_law_1162 ?_
      refine lv_aload_n hx hb dL_law_1163 rfl (lv_at hl 5 rfl) ?_
      refine lv_iload hx hb dL_law_1164 (lv_at hl 1 rfl) ?_
      refine lv_iconst (v := (2 : Int32)) hx hb dL_law_1166 (by decide) ?_
      refine lv_iadd hx hb dL_law_1167 ?_
      refine xs_lld C hX hbz hbl hS hi2 dL_law_1168 ?_
      replace hP := xs_toM hP
      replace hD := xs_toMD hD
      refine xs_calli hS (xs_runV (As := [.int v1, .int v2]) (rest := []) C (mX11_status l em) w_1819 w_1820 w_1821 w_115 w_1822 hd_X11_status (xsRmB hcs (by decide) (by decide) (by decide) (by decide)) hP hD hS lk_X11 rfl hl.1 rfl (Nat.le_of_ble_eq_true rfl) dL_law_1169) (fun H locs hP hD hS => ?_)
      refine lv_istore (lv' := [(6, .int mo.1), (5, .int r), (4, .int i), (3, .ref (xsA X 131)), (2, .ref (xsA X 100)), (1, .ref (xsA X 0)), (0, .ref b)]) hx hb dL_law_1172 hl (by decide) rfl (fun ls hl => ?_)
      refine lv_aload_n hx hb dL_law_1174 rfl (lv_at hl 4 rfl) ?_
      refine xs_calli hS (xs_runV (As := []) (rest := []) C (mX11_thrown l rfl) w_1343 w_1344 w_1345 w_115 w_1346 hd_X11_thrown (xsRmB hcs (by decide) (by decide) (by decide) (by decide)) hP hD hS lk_X11 rfl hl.1 rfl (Nat.le_of_ble_eq_true rfl) dL_law_1175) (fun H locs hP hD hS => ?_)
      replace hP := xs_toK hP
      replace hD := xs_toKD hD
      refine lv_iload hx hb dL_law_1178 (lv_at hl 1 rfl) ?_
      refine lv_icmp_eq (tgt := 1185) hx hb dL_law_1180 (by decide) (fun _ => ?_) (fun q => absurd et q)
      refine lv_iload hx hb dL_law_1185 (lv_at hl 1 rfl) ?_
      refine lv_if_ne (tgt := 1202) hx hb dL_law_1187 (by decide) (fun _ => ?_) (fun q => absurd q (ekn))
      refine lv_goto (tgt := 2175) hx hb dL_law_1202 (by decide) ?_
      exact W.widen (Nat.add_le_add_left (by decide) _) (Nat.add_le_add_left (by decide) _) (kk hR hP hD hS (lv_sub hl [2, 3, 4, 5, 6] rfl))
set_option maxRecDepth 100000 in
set_option maxHeartbeats 8000000 in
theorem lc_rank {Rl : xsRel} (l : Launch) (hst : l.stackTraces = false) (hp : pc_rank Rl) {i v1 v2 v3 v4 v5 : Int32} (C : xsC p s m c cL_law #[.ref b] RL 8 X) (hX : va_X b L xs s s.heap) (hbz : b < xsZ X) (hbl : b < s.heap.size) (hi1 : vp_in (i + 1) L ∧ xs (i + 1).toNatClampNeg = v1) (hi2 : vp_in (i + 2) L ∧ xs (i + 2).toNatClampNeg = v2) (hi3 : vp_in (i + 3) L ∧ xs (i + 3).toNatClampNeg = v3) (hi4 : vp_in (i + 4) L ∧ xs (i + 4).toNatClampNeg = v4) (hi5 : vp_in (i + 5) L ∧ xs (i + 5).toNatClampNeg = v5) (hcs : xsRmC C0 D0) (hP : va_P (xsD X) vwCl (wK X kIsKept kIsStale hiLatest hiSize scBytes scTold scLength scFault scAt scNumber piSegmentsNow enKind enX enY enLower enFromX enFromY enToX enToY tiTouching tiLyingAlong tiMeetingPairs tiAlongPairs tiSize evX evY evLower evBundle evCrossingOf evEventOf evLeftEvent evRightEvent evSize evCrossings evSegmentsNow grDegree grEdges grFar grQueue grQueued huX huY huSize huBestX huBestY S (xsOc X ou :: wM X mThrown mWorld mImage mDraft mEarlier mRemembered mHasImage mIsLaid mOne mTwo mShare mX mY mD mEventX mEventY mEventD mEvents mCrossingOf mBundle mEventOf mDegree mFrom mTo mCrossings mEdges mMet mUpper mLower mTape mTaped mPoint mEnd mBegin mFaultAt mFive mTold mActs mFar mViews mHullX mHullY mEndX mEndY mHeightUp mHeightLow mMeets mMeetsOf [])) H) (hD : va_D (xsF X) (wK X kIsKept kIsStale hiLatest hiSize scBytes scTold scLength scFault scAt scNumber piSegmentsNow enKind enX enY enLower enFromX enFromY enToX enToY tiTouching tiLyingAlong tiMeetingPairs tiAlongPairs tiSize evX evY evLower evBundle evCrossingOf evEventOf evLeftEvent evRightEvent evSize evCrossings evSegmentsNow grDegree grEdges grFar grQueue grQueued huX huY huSize huBestX huBestY S (xsOc X ou :: wM X mThrown mWorld mImage mDraft mEarlier mRemembered mHasImage mIsLaid mOne mTwo mShare mX mY mD mEventX mEventY mEventD mEvents mCrossingOf mBundle mEventOf mDegree mFrom mTo mCrossings mEdges mMet mUpper mLower mTape mTaped mPoint mEnd mBegin mFaultAt mFive mTold mActs mFar mViews mHullX mHullY mEndX mEndY mHeightUp mHeightLow mMeets mMeetsOf []))) (hS : va_S (xsF X) s.heap H locs) (hl : lv_has ls 8 [(4, .int i), (3, .ref (xsA X 131)), (2, .ref (xsA X 100)), (1, .ref (xsA X 0)), (0, .ref b)]) (hR : Rl kIsKept kIsStale hiLatest hiSize scBytes scTold scLength scFault scAt scNumber piSegmentsNow enKind enX enY enLower enFromX enFromY enToX enToY tiTouching tiLyingAlong tiMeetingPairs tiAlongPairs tiSize evX evY evLower evBundle evCrossingOf evEventOf evLeftEvent evRightEvent evSize evCrossings evSegmentsNow grDegree grEdges grFar grQueue grQueued huX huY huSize huBestX huBestY S mThrown mWorld mImage mDraft mEarlier mRemembered mHasImage mIsLaid mOne mTwo mShare mX mY mD mEventX mEventY mEventD mEvents mCrossingOf mBundle mEventOf mDegree mFrom mTo mCrossings mEdges mMet mUpper mLower mTape mTaped mPoint mEnd mBegin mFaultAt mFive mTold mActs mFar mViews mHullX mHullY mEndX mEndY mHeightUp mHeightLow mMeets mMeetsOf)
    (kk : ∀ {kIsKept kIsStale hiLatest hiSize scLength scFault scAt scNumber piSegmentsNow enKind enFromX enFromY enToX enToY tiMeetingPairs tiAlongPairs tiSize evSize evCrossings evSegmentsNow grEdges grQueued huSize huBestX huBestY : Int32} {scBytes scTold tiTouching tiLyingAlong evBundle evCrossingOf evEventOf evLeftEvent evRightEvent grDegree grFar grQueue huX huY : Nat → Int32} {enX enY enLower : Int64} {evX evY evLower : Nat → Int64} {S : Nat → xsV} {mThrown mRemembered mHasImage mIsLaid mEvents mCrossings mEdges mTaped mPoint mEnd mBegin mFaultAt mActs : Int32} {mWorld mImage mDraft mEarlier mOne mTwo mShare mCrossingOf mBundle mEventOf mDegree mFrom mTo mMet mTape mFive mTold mFar mViews mHullX mHullY mEndX mEndY mMeets mMeetsOf : Nat → Int32} {mX mY mD mHeightUp mHeightLow : Int64} {mEventX mEventY mEventD mUpper mLower : Nat → Int64} {ou : Nat → Int64} {ls : Array Slot} {H : Heap} {locs : List Loc}, Rl kIsKept kIsStale hiLatest hiSize scBytes scTold scLength scFault scAt scNumber piSegmentsNow enKind enX enY enLower enFromX enFromY enToX enToY tiTouching tiLyingAlong tiMeetingPairs tiAlongPairs tiSize evX evY evLower evBundle evCrossingOf evEventOf evLeftEvent evRightEvent evSize evCrossings evSegmentsNow grDegree grEdges grFar grQueue grQueued huX huY huSize huBestX huBestY S mThrown mWorld mImage mDraft mEarlier mRemembered mHasImage mIsLaid mOne mTwo mShare mX mY mD mEventX mEventY mEventD mEvents mCrossingOf mBundle mEventOf mDegree mFrom mTo mCrossings mEdges mMet mUpper mLower mTape mTaped mPoint mEnd mBegin mFaultAt mFive mTold mActs mFar mViews mHullX mHullY mEndX mEndY mHeightUp mHeightLow mMeets mMeetsOf → va_P (xsD X) vwCl (wK X kIsKept kIsStale hiLatest hiSize scBytes scTold scLength scFault scAt scNumber piSegmentsNow enKind enX enY enLower enFromX enFromY enToX enToY tiTouching tiLyingAlong tiMeetingPairs tiAlongPairs tiSize evX evY evLower evBundle evCrossingOf evEventOf evLeftEvent evRightEvent evSize evCrossings evSegmentsNow grDegree grEdges grFar grQueue grQueued huX huY huSize huBestX huBestY S (xsOc X ou :: wM X mThrown mWorld mImage mDraft mEarlier mRemembered mHasImage mIsLaid mOne mTwo mShare mX mY mD mEventX mEventY mEventD mEvents mCrossingOf mBundle mEventOf mDegree mFrom mTo mCrossings mEdges mMet mUpper mLower mTape mTaped mPoint mEnd mBegin mFaultAt mFive mTold mActs mFar mViews mHullX mHullY mEndX mEndY mHeightUp mHeightLow mMeets mMeetsOf [])) H → va_D (xsF X) (wK X kIsKept kIsStale hiLatest hiSize scBytes scTold scLength scFault scAt scNumber piSegmentsNow enKind enX enY enLower enFromX enFromY enToX enToY tiTouching tiLyingAlong tiMeetingPairs tiAlongPairs tiSize evX evY evLower evBundle evCrossingOf evEventOf evLeftEvent evRightEvent evSize evCrossings evSegmentsNow grDegree grEdges grFar grQueue grQueued huX huY huSize huBestX huBestY S (xsOc X ou :: wM X mThrown mWorld mImage mDraft mEarlier mRemembered mHasImage mIsLaid mOne mTwo mShare mX mY mD mEventX mEventY mEventD mEvents mCrossingOf mBundle mEventOf mDegree mFrom mTo mCrossings mEdges mMet mUpper mLower mTape mTaped mPoint mEnd mBegin mFaultAt mFive mTold mActs mFar mViews mHullX mHullY mEndX mEndY mHeightUp mHeightLow mMeets mMeetsOf [])) → va_S (xsF X) s.heap H locs → lv_has ls 8 [(4, .int i), (3, .ref (xsA X 131)), (2, .ref (xsA X 100)), (1, .ref (xsA X 0)), (0, .ref b)] → W p l e room_1 s m #[.ref b] below meth c H locs (C0 + 5) (D0 + 30) Q (F0 m 2175 ls [])) :
    W p l e room_1 s m #[.ref b] below meth c H locs C0 D0 Q (F0 m 1205 ls []) := by
  have hx := C.1
  have hb := C.2.1
  obtain ⟨out, mo, ef, em, hor⟩ := hp hR v1 v2
  rcases hor with ⟨tt, eo, ea, et, hR⟩ | ⟨n, tt, eo, en, et, hR⟩
  · subst eo
    refine lv_aload_n hx hb dL_law_1205 rfl (lv_at hl 3 rfl) ?_
    refine lv_aload_n hx hb dL_law_1206 rfl (lv_at hl 4 rfl) ?_
    refine lv_iload hx hb dL_law_1207 (lv_at hl 0 rfl) ?_
    refine lv_iconst (v := (1 : Int32)) hx hb dL_law_1209 (by decide) ?_
    refine lv_iadd hx hb dL_law_1210 ?_
    refine xs_lld C hX hbz hbl hS hi1 dL_law_1211 ?_
    refine lv_aload_n hx hb dL_law_1212 rfl (lv_at hl 4 rfl) ?_
    refine lv_iload hx hb dL_law_1213 (lv_at hl 0 rfl) ?_
    refine lv_iconst (v := (2 : Int32)) hx hb dL_law_1215 (by decide) ?_
    refine lv_iadd hx hb dL_law_1216 ?_
    refine xs_lld C hX hbz hbl hS hi2 dL_law_1217 ?_
    refine lv_aload_n hx hb dL_law_1218 rfl (lv_at hl 1 rfl) ?_
    refine xs_lcalli hS (xs_lrunS (As := [.ref (xsA X 0), .int v1, .int v2, .ref (xsA X 131)]) (rest := []) C (mL_rank l hst (xs_eta (S 0)) ef (fun n tt h => by cases h)) w_1198 w_1199 w_104 w_1200 hd_L_rank (xsRmL hcs (by decide) (by decide) (by decide) (by decide)) hP hD hS hl.1 rfl (Nat.le_of_ble_eq_true rfl) dL_law_1219) (fun r u H locs hq hP hD hS => ?_)
    rcases hq with ⟨tx, e1, e2, e3⟩ | ⟨n, tx, e1, e2, e3⟩
    · cases e1
      subst e3
      subst e2
      refine lv_istore (lv' := [(5, .int 0), (4, .int i), (3, .ref (xsA X 131)), (2, .ref (xsA X 100)), (1, .ref (xsA X 0)), (0, .ref b)]) hx hb dL_law_1222 hl (by decide) rfl (fun ls hl => ?_)
      refine lv_aload_n hx hb dL_law_1224 rfl (lv_at hl 3 rfl) ?_
      refine lv_aload_n hx hb dL_law_1225 rfl (lv_at hl 5 rfl) ?_
      refine lv_iload hx hb dL_law_1226 (lv_at hl 1 rfl) ?_
      refine lv_iconst (v := (1 : Int32)) hx hb dL_law_1228 (by decide) ?_
      refine lv_iadd hx hb dL_law_1229 ?_
      refine xs_lld C hX hbz hbl hS hi1 dL_law_1230 ?_
      refine lv_aload_n hx hb dL_law_1231 rfl (lv_at hl 5 rfl) ?_
      refine lv_iload hx hb dL_law_1232 (lv_at hl 1 rfl) ?_
      refine lv_iconst (v := (2 : Int32)) hx hb dL_law_1234 (by decide) ?_
      refine lv_iadd hx hb dL_law_1235 ?_
      refine xs_lld C hX hbz hbl hS hi2 dL_law_1236 ?_
      replace hP := xs_toM hP
      replace hD := xs_toMD hD
      refine xs_calli hS (xs_runV (As := [.int v1, .int v2]) (rest := []) C (mX11_rank l em) w_1843 w_1844 w_1845 w_115 w_1846 hd_X11_rank (xsRmB hcs (by decide) (by decide) (by decide) (by decide)) hP hD hS lk_X11 rfl hl.1 rfl (Nat.le_of_ble_eq_true rfl) dL_law_1237) (fun H locs hP hD hS => ?_)
      refine lv_istore (lv' := [(6, .int mo.1), (5, .int 0), (4, .int i), (3, .ref (xsA X 131)), (2, .ref (xsA X 100)), (1, .ref (xsA X 0)), (0, .ref b)]) hx hb dL_law_1240 hl (by decide) rfl (fun ls hl => ?_)
      refine lv_aload_n hx hb dL_law_1242 rfl (lv_at hl 4 rfl) ?_
      refine xs_calli hS (xs_runV (As := []) (rest := []) C (mX11_thrown l rfl) w_1343 w_1344 w_1345 w_115 w_1346 hd_X11_thrown (xsRmB hcs (by decide) (by decide) (by decide) (by decide)) hP hD hS lk_X11 rfl hl.1 rfl (Nat.le_of_ble_eq_true rfl) dL_law_1243) (fun H locs hP hD hS => ?_)
      replace hP := xs_toK hP
      replace hD := xs_toKD hD
      refine lv_iload hx hb dL_law_1246 (lv_at hl 1 rfl) ?_
      refine lv_icmp_eq (tgt := 1253) hx hb dL_law_1248 (by decide) (fun _ => ?_) (fun q => absurd et q)
      refine lv_iload hx hb dL_law_1253 (lv_at hl 1 rfl) ?_
      refine lv_if_ne (tgt := 1270) hx hb dL_law_1255 (by decide) (fun q => absurd rfl q) (fun _ => ?_)
      refine lv_aload_n hx hb dL_law_1258 rfl (lv_at hl 3 rfl) ?_
      refine lv_iconst (v := (0 : Int32)) hx hb dL_law_1259 (by decide) ?_
      refine xs_lald C hP (q0 := 99) rfl (vp_in_nI (n := 0) (by decide) (by decide)) dL_law_1260 ?_
      refine lv_iload hx hb dL_law_1261 (lv_at hl 0 rfl) ?_
      refine lv_i2l hx hb dL_law_1263 rfl ?_
      refine xs_lcmp_eq (tgt := 1270) C dL_law_1264 dL_law_1265 (by decide) (fun _ => ?_) (fun q => absurd (xs_ou0 (congrArg Int32.toInt64 ea)) q)
      refine lv_goto (tgt := 2175) hx hb dL_law_1270 (by decide) ?_
      exact W.widen (Nat.add_le_add_left (by decide) _) (Nat.add_le_add_left (by decide) _) (kk hR hP hD hS (lv_sub hl [2, 3, 4, 5, 6] rfl))
    · cases e1
  · subst eo
    refine lv_aload_n hx hb dL_law_1205 rfl (lv_at hl 3 rfl) ?_
    refine lv_aload_n hx hb dL_law_1206 rfl (lv_at hl 4 rfl) ?_
    refine lv_iload hx hb dL_law_1207 (lv_at hl 0 rfl) ?_
    refine lv_iconst (v := (1 : Int32)) hx hb dL_law_1209 (by decide) ?_
    refine lv_iadd hx hb dL_law_1210 ?_
    refine xs_lld C hX hbz hbl hS hi1 dL_law_1211 ?_
    refine lv_aload_n hx hb dL_law_1212 rfl (lv_at hl 4 rfl) ?_
    refine lv_iload hx hb dL_law_1213 (lv_at hl 0 rfl) ?_
    refine lv_iconst (v := (2 : Int32)) hx hb dL_law_1215 (by decide) ?_
    refine lv_iadd hx hb dL_law_1216 ?_
    refine xs_lld C hX hbz hbl hS hi2 dL_law_1217 ?_
    refine lv_aload_n hx hb dL_law_1218 rfl (lv_at hl 1 rfl) ?_
    refine xs_lcalli hS (xs_lrunS (As := [.ref (xsA X 0), .int v1, .int v2, .ref (xsA X 131)]) (rest := []) C (mL_rank l hst (xs_eta (S 0)) ef (fun n2 t2 h => by cases h; exact en)) w_1198 w_1199 w_104 w_1200 hd_L_rank (xsRmL hcs (by decide) (by decide) (by decide) (by decide)) hP hD hS hl.1 rfl (Nat.le_of_ble_eq_true rfl) dL_law_1219) (fun r u H locs hq hP hD hS => ?_)
    rcases hq with ⟨tx, e1, e2, e3⟩ | ⟨n2, tx, e1, e2, e3⟩
    · cases e1
    · cases e1
      subst e3
      have ekn : ¬ r = 0 := by rw [e2]; rw [en]; decide
      replace et := et.trans e2.symm
      refine lv_istore (lv' := [(5, .int r), (4, .int i), (3, .ref (xsA X 131)), (2, .ref (xsA X 100)), (1, .ref (xsA X 0)), (0, .ref b)]) hx hb dL_law_1222 hl (by decide) rfl (fun ls hl => ?_)
      refine lv_aload_n hx hb dL_law_1224 rfl (lv_at hl 3 rfl) ?_
      refine lv_aload_n hx hb dL_law_1225 rfl (lv_at hl 5 rfl) ?_
      refine lv_iload hx hb dL_law_1226 (lv_at hl 1 rfl) ?_
      refine lv_iconst (v := (1 : Int32)) hx hb dL_law_1228 (by decide) ?_
      refine lv_iadd hx hb dL_law_1229 ?_
      refine xs_lld C hX hbz hbl hS hi1 dL_law_1230 ?_
      refine lv_aload_n hx hb dL_law_1231 rfl (lv_at hl 5 rfl) ?_
      refine lv_iload hx hb dL_law_1232 (lv_at hl 1 rfl) ?_
      refine lv_iconst (v := (2 : Int32)) hx hb dL_law_1234 (by decide) ?_
      refine lv_iadd hx hb dL_law_1235 ?_
      refine xs_lld C hX hbz hbl hS hi2 dL_law_1236 ?_
      replace hP := xs_toM hP
      replace hD := xs_toMD hD
      refine xs_calli hS (xs_runV (As := [.int v1, .int v2]) (rest := []) C (mX11_rank l em) w_1843 w_1844 w_1845 w_115 w_1846 hd_X11_rank (xsRmB hcs (by decide) (by decide) (by decide) (by decide)) hP hD hS lk_X11 rfl hl.1 rfl (Nat.le_of_ble_eq_true rfl) dL_law_1237) (fun H locs hP hD hS => ?_)
      refine lv_istore (lv' := [(6, .int mo.1), (5, .int r), (4, .int i), (3, .ref (xsA X 131)), (2, .ref (xsA X 100)), (1, .ref (xsA X 0)), (0, .ref b)]) hx hb dL_law_1240 hl (by decide) rfl (fun ls hl => ?_)
      refine lv_aload_n hx hb dL_law_1242 rfl (lv_at hl 4 rfl) ?_
      refine xs_calli hS (xs_runV (As := []) (rest := []) C (mX11_thrown l rfl) w_1343 w_1344 w_1345 w_115 w_1346 hd_X11_thrown (xsRmB hcs (by decide) (by decide) (by decide) (by decide)) hP hD hS lk_X11 rfl hl.1 rfl (Nat.le_of_ble_eq_true rfl) dL_law_1243) (fun H locs hP hD hS => ?_)
      replace hP := xs_toK hP
      replace hD := xs_toKD hD
      refine lv_iload hx hb dL_law_1246 (lv_at hl 1 rfl) ?_
      refine lv_icmp_eq (tgt := 1253) hx hb dL_law_1248 (by decide) (fun _ => ?_) (fun q => absurd et q)
      refine lv_iload hx hb dL_law_1253 (lv_at hl 1 rfl) ?_
      refine lv_if_ne (tgt := 1270) hx hb dL_law_1255 (by decide) (fun _ => ?_) (fun q => absurd q (ekn))
      refine lv_goto (tgt := 2175) hx hb dL_law_1270 (by decide) ?_
      exact W.widen (Nat.add_le_add_left (by decide) _) (Nat.add_le_add_left (by decide) _) (kk hR hP hD hS (lv_sub hl [2, 3, 4, 5, 6] rfl))
end XSLB
