set_option maxRecDepth 100000 in
set_option maxHeartbeats 8000000 in
theorem mX11_spreads (l : Launch) {X : xsX} {mThrown mRemembered mHasImage mIsLaid mEvents mCrossings mEdges mTaped mPoint mEnd mBegin mFaultAt mActs : Int32} {mWorld mImage mDraft mEarlier mOne mTwo mShare mCrossingOf mBundle mEventOf mDegree mFrom mTo mMet mTape mFive mTold mFar mViews mHullX mHullY mEndX mEndY mMeets mMeetsOf : Nat → Int32} {mX mY mD mHeightUp mHeightLow : Int64} {mEventX mEventY mEventD mUpper mLower : Nat → Int64} {Rw : va_W} {out : Int32 × (Nat → Int32) × (Nat → Int32) × (Nat → Int32) × Int64 × Int64 × Int64} (hf : fX11_spreads mWorld mOne mTwo mShare mX mY mD mEventX mEventY mEventD mEvents mBundle = some out) : Met l yX11_spreads (xsWs yX11_spreads cX11_spreads 3 (some .int)) { frames := 6, cells := 0, slots := 0, locals := 166 } (xsP X (wM X mThrown mWorld mImage mDraft mEarlier mRemembered mHasImage mIsLaid mOne mTwo mShare mX mY mD mEventX mEventY mEventD mEvents mCrossingOf mBundle mEventOf mDegree mFrom mTo mCrossings mEdges mMet mUpper mLower mTape mTaped mPoint mEnd mBegin mFaultAt mFive mTold mActs mFar mViews mHullX mHullY mEndX mEndY mHeightUp mHeightLow mMeets mMeetsOf Rw) [.ref (xsA X 100)]) (xsQi X out.1 (wM X mThrown mWorld mImage mDraft mEarlier mRemembered mHasImage mIsLaid out.2.1 out.2.2.1 out.2.2.2.1 out.2.2.2.2.1 out.2.2.2.2.2.1 out.2.2.2.2.2.2 mEventX mEventY mEventD mEvents mCrossingOf mBundle mEventOf mDegree mFrom mTo mCrossings mEdges mMet mUpper mLower mTape mTaped mPoint mEnd mBegin mFaultAt mFive mTold mActs mFar mViews mHullX mHullY mEndX mEndY mHeightUp mHeightLow mMeets mMeetsOf Rw)) 0 0 (xsF X) := by
  refine xs_meth RX11 (by decide) rfl (Nat.le_of_ble_eq_true rfl) ?_
  intro p e s m below meth c ls H locs C hP hD hS hr hlk hl
  have hx := C.1
  have hb := C.2.1
  have hl : lv_has ls 3 [(0, .ref (xsA X 100))] := hl
  obtain ⟨Qq, hQq⟩ : ∃ Qq, Qq = xsQi X out.1 (wM X mThrown mWorld mImage mDraft mEarlier mRemembered mHasImage mIsLaid out.2.1 out.2.2.1 out.2.2.2.1 out.2.2.2.2.1 out.2.2.2.2.2.1 out.2.2.2.2.2.2 mEventX mEventY mEventD mEvents mCrossingOf mBundle mEventOf mDegree mFrom mTo mCrossings mEdges mMet mUpper mLower mTape mTaped mPoint mEnd mBegin mFaultAt mFive mTold mActs mFar mViews mHullX mHullY mEndX mEndY mHeightUp mHeightLow mMeets mMeetsOf Rw) := ⟨_, rfl⟩
  rw [← hQq]
  unfold fX11_spreads at hf
  refine lv_iconst (v := (0 : Int32)) hx hb dX11_spreads_0 (by decide) ?_
  refine lv_istore_n (lv' := [(1, .int (0 : Int32)), (0, .ref (xsA X 100))]) hx hb dX11_spreads_1 rfl hl (by decide) rfl (fun ls hl => ?_)
  refine lv_iconst (v := (0 : Int32)) hx hb dX11_spreads_2 (by decide) ?_
  refine lv_istore_n (lv' := [(2, .int (0 : Int32)), (1, .int (0 : Int32)), (0, .ref (xsA X 100))]) hx hb dX11_spreads_3 rfl hl (by decide) rfl (fun ls hl => ?_)
  have K9 : ∀ (y10 : Int32) (y11 : Nat → Int32) (y12 : Nat → Int32) (y13 : Nat → Int32) (y14 : Int64) (y15 : Int64) (y16 : Int64) (hf : fX11_spreads_J26 y10 y11 y12 y13 y14 y15 y16 = some out) (H : Heap) (locs : List Loc) (ls : Array Slot), va_P (xsD X) vwCl (wM X mThrown mWorld mImage mDraft mEarlier mRemembered mHasImage mIsLaid y11 y12 y13 y14 y15 y16 mEventX mEventY mEventD mEvents mCrossingOf mBundle mEventOf mDegree mFrom mTo mCrossings mEdges mMet mUpper mLower mTape mTaped mPoint mEnd mBegin mFaultAt mFive mTold mActs mFar mViews mHullX mHullY mEndX mEndY mHeightUp mHeightLow mMeets mMeetsOf Rw) H → va_D (xsF X) (wM X mThrown mWorld mImage mDraft mEarlier mRemembered mHasImage mIsLaid y11 y12 y13 y14 y15 y16 mEventX mEventY mEventD mEvents mCrossingOf mBundle mEventOf mDegree mFrom mTo mCrossings mEdges mMet mUpper mLower mTape mTaped mPoint mEnd mBegin mFaultAt mFive mTold mActs mFar mViews mHullX mHullY mEndX mEndY mHeightUp mHeightLow mMeets mMeetsOf Rw) → va_S (xsF X) s.heap H locs → lv_has ls 3 [(1, .int y10)] → W p l e { frames := 6, cells := 0, slots := 0, locals := 166 } s m ([.ref (xsA X 100)] : List Value).toArray below meth c H locs 0 0 (MQ below Qq ([.ref (xsA X 100)] : List Value).toArray s 0 0 (xsF X)) (F0 m 26 ls []) := by
    intro y10 y11 y12 y13 y14 y15 y16 hf H locs ls hP hD hS hl
    unfold fX11_spreads_J26 at hf
    refine lv_iload_n hx hb dX11_spreads_26 rfl (lv_at hl 0 rfl) ?_
    have ho := Option.some.inj hf
    subst ho
    rw [hQq]
    exact xs_iret C hr hlk hP hD hS dX11_spreads_27
  replace hf := xsBd_use hf
  obtain ⟨r9, hk90, hf⟩ := hf
  have L9 : ∀ (sg : Int32 × Int32 × (Nat → Int32) × (Nat → Int32) × (Nat → Int32) × Int64 × Int64 × Int64) (rg : Int32 × (Nat → Int32) × (Nat → Int32) × (Nat → Int32) × Int64 × Int64 × Int64), xsWh (fun s9 => fX11_spreads_L4 mWorld mEventX mEventY mEventD mEvents mBundle s9.1 s9.2.1 s9.2.2.1 s9.2.2.2.1 s9.2.2.2.2.1 s9.2.2.2.2.2.1 s9.2.2.2.2.2.2.1 s9.2.2.2.2.2.2.2) sg = some rg → (fX11_spreads_J26 rg.1 rg.2.1 rg.2.2.1 rg.2.2.2.1 rg.2.2.2.2.1 rg.2.2.2.2.2.1 rg.2.2.2.2.2.2 = some out → ∀ (H : Heap) (locs : List Loc) (ls : Array Slot), va_P (xsD X) vwCl (wM X mThrown mWorld mImage mDraft mEarlier mRemembered mHasImage mIsLaid sg.2.2.1 sg.2.2.2.1 sg.2.2.2.2.1 sg.2.2.2.2.2.1 sg.2.2.2.2.2.2.1 sg.2.2.2.2.2.2.2 mEventX mEventY mEventD mEvents mCrossingOf mBundle mEventOf mDegree mFrom mTo mCrossings mEdges mMet mUpper mLower mTape mTaped mPoint mEnd mBegin mFaultAt mFive mTold mActs mFar mViews mHullX mHullY mEndX mEndY mHeightUp mHeightLow mMeets mMeetsOf Rw) H → va_D (xsF X) (wM X mThrown mWorld mImage mDraft mEarlier mRemembered mHasImage mIsLaid sg.2.2.1 sg.2.2.2.1 sg.2.2.2.2.1 sg.2.2.2.2.2.1 sg.2.2.2.2.2.2.1 sg.2.2.2.2.2.2.2 mEventX mEventY mEventD mEvents mCrossingOf mBundle mEventOf mDegree mFrom mTo mCrossings mEdges mMet mUpper mLower mTape mTaped mPoint mEnd mBegin mFaultAt mFive mTold mActs mFar mViews mHullX mHullY mEndX mEndY mHeightUp mHeightLow mMeets mMeetsOf Rw) → va_S (xsF X) s.heap H locs → lv_has ls 3 [(0, .ref (xsA X 100)), (1, .int sg.1), (2, .int sg.2.1)] → W p l e { frames := 6, cells := 0, slots := 0, locals := 166 } s m ([.ref (xsA X 100)] : List Value).toArray below meth c H locs 0 0 (MQ below Qq ([.ref (xsA X 100)] : List Value).toArray s 0 0 (xsF X)) (F0 m 4 ls [])) := by
    refine xsWh_ind ?_
    intro sg r9 u9 hf ih9 hx9 hk9 H locs ls hP hD hS hl
    obtain ⟨y1, y2, y3, y4, y5, y6, y7, y8⟩ := sg
    replace hf : fX11_spreads_L4 mWorld mEventX mEventY mEventD mEvents mBundle y1 y2 y3 y4 y5 y6 y7 y8 = some u9 := hf
    replace hl : lv_has ls 3 [(0, .ref (xsA X 100)), (1, .int y1), (2, .int y2)] := hl
    replace hP : va_P (xsD X) vwCl (wM X mThrown mWorld mImage mDraft mEarlier mRemembered mHasImage mIsLaid y3 y4 y5 y6 y7 y8 mEventX mEventY mEventD mEvents mCrossingOf mBundle mEventOf mDegree mFrom mTo mCrossings mEdges mMet mUpper mLower mTape mTaped mPoint mEnd mBegin mFaultAt mFive mTold mActs mFar mViews mHullX mHullY mEndX mEndY mHeightUp mHeightLow mMeets mMeetsOf Rw) H := hP
    replace hD : va_D (xsF X) (wM X mThrown mWorld mImage mDraft mEarlier mRemembered mHasImage mIsLaid y3 y4 y5 y6 y7 y8 mEventX mEventY mEventD mEvents mCrossingOf mBundle mEventOf mDegree mFrom mTo mCrossings mEdges mMet mUpper mLower mTape mTaped mPoint mEnd mBegin mFaultAt mFive mTold mActs mFar mViews mHullX mHullY mEndX mEndY mHeightUp mHeightLow mMeets mMeetsOf Rw) := hD
    unfold fX11_spreads_L4 at hf
    refine lv_iload_n hx hb dX11_spreads_4 rfl (lv_at hl 2 rfl) ?_
    refine lv_aload_n hx hb dX11_spreads_5 rfl (lv_at hl 0 rfl) ?_
    refine xg_X11_193 C hP dX11_spreads_6 ?_
    refine lv_icmp_ge (tgt := 26) hx hb dX11_spreads_9 (by decide) (fun c21 => ?_) (fun c21 => ?_)
    · replace hf := xsBr_t c21 hf
      have ez := hx9 _ (Option.some.inj hf).symm
      subst ez
      exact K9 y1 y3 y4 y5 y6 y7 y8 hk9 H locs ls hP hD hS (lv_sub hl [1] rfl)
    · replace hf := xsBr_f c21 hf
      refine lv_iload_n hx hb dX11_spreads_12 rfl (lv_at hl 1 rfl) ?_
      refine lv_aload_n hx hb dX11_spreads_13 rfl (lv_at hl 0 rfl) ?_
      refine lv_iload_n hx hb dX11_spreads_14 rfl (lv_at hl 2 rfl) ?_
      replace hf := xsBd_use hf
      obtain ⟨o17, h18, hf⟩ := hf
      refine xs_calli hS (xs_runV (As := [.int y2]) C (mX11_spreadOf l  h18) w_1815 w_1817 w_81 w_115 w_1818 hd_X11_spreadOf ⟨rfl, rfl, Nat.le_of_ble_eq_true rfl, Nat.le_of_ble_eq_true rfl, Nat.zero_le _, Nat.zero_le _⟩ hP hD hS lk_X11 rfl hl.1 rfl (Nat.le_of_ble_eq_true rfl) dX11_spreads_15) (fun H locs hP hD hS => ?_)
      refine lv_iadd hx hb dX11_spreads_18 ?_
      refine lv_topi (fun x19 ex19 => ?_)
      replace hf := xsLt_use ex19 hf
      refine lv_istore_n (lv' := [(1, .int x19), (0, .ref (xsA X 100)), (2, .int y2)]) hx hb dX11_spreads_19 rfl hl (by decide) rfl (fun ls hl => ?_)
      obtain ⟨x20, ex20⟩ : ∃ y : Int32, y = y2 + (1 : Int32) := ⟨_, rfl⟩
      replace hf := xsLt_use ex20 hf
      refine lv_iinc (v := x20) (lv' := [(2, .int x20), (1, .int x19), (0, .ref (xsA X 100))]) hx hb dX11_spreads_20 hl (k := 2) rfl (by rw [ex20]; rfl) (by decide) rfl (fun ls hl => ?_)
      refine lv_goto (tgt := 4) hx hb dX11_spreads_23 (by decide) ?_
      exact ih9 _ (Option.some.inj hf).symm hk9 H locs ls hP hD hS (lv_sub hl [2, 1, 0] rfl)
  exact L9 ((0 : Int32), (0 : Int32), mOne, mTwo, mShare, mX, mY, mD) r9 hk90 hf H locs ls hP hD hS (lv_sub hl [2, 1, 0] rfl)
set_option maxRecDepth 100000 in
set_option maxHeartbeats 8000000 in
theorem mX11_widestBundle (l : Launch) {X : xsX} {mThrown mRemembered mHasImage mIsLaid mEvents mCrossings mEdges mTaped mPoint mEnd mBegin mFaultAt mActs : Int32} {mWorld mImage mDraft mEarlier mOne mTwo mShare mCrossingOf mBundle mEventOf mDegree mFrom mTo mMet mTape mFive mTold mFar mViews mHullX mHullY mEndX mEndY mMeets mMeetsOf : Nat → Int32} {mX mY mD mHeightUp mHeightLow : Int64} {mEventX mEventY mEventD mUpper mLower : Nat → Int64} {Rw : va_W} {out : Int32} (hf : fX11_widestBundle mBundle mEventOf mCrossings = some out) : Met l yX11_widestBundle (xsWs yX11_widestBundle cX11_widestBundle 3 (some .int)) { frames := 1, cells := 0, slots := 0, locals := 24 } (xsP X (wM X mThrown mWorld mImage mDraft mEarlier mRemembered mHasImage mIsLaid mOne mTwo mShare mX mY mD mEventX mEventY mEventD mEvents mCrossingOf mBundle mEventOf mDegree mFrom mTo mCrossings mEdges mMet mUpper mLower mTape mTaped mPoint mEnd mBegin mFaultAt mFive mTold mActs mFar mViews mHullX mHullY mEndX mEndY mHeightUp mHeightLow mMeets mMeetsOf Rw) [.ref (xsA X 100)]) (xsQi X out (wM X mThrown mWorld mImage mDraft mEarlier mRemembered mHasImage mIsLaid mOne mTwo mShare mX mY mD mEventX mEventY mEventD mEvents mCrossingOf mBundle mEventOf mDegree mFrom mTo mCrossings mEdges mMet mUpper mLower mTape mTaped mPoint mEnd mBegin mFaultAt mFive mTold mActs mFar mViews mHullX mHullY mEndX mEndY mHeightUp mHeightLow mMeets mMeetsOf Rw)) 0 0 (xsF X) := by
  refine xs_meth RX11 (by decide) rfl (Nat.le_of_ble_eq_true rfl) ?_
  intro p e s m below meth c ls H locs C hP hD hS hr hlk hl
  have hx := C.1
  have hb := C.2.1
  have hl : lv_has ls 3 [(0, .ref (xsA X 100))] := hl
  obtain ⟨Qq, hQq⟩ : ∃ Qq, Qq = xsQi X out (wM X mThrown mWorld mImage mDraft mEarlier mRemembered mHasImage mIsLaid mOne mTwo mShare mX mY mD mEventX mEventY mEventD mEvents mCrossingOf mBundle mEventOf mDegree mFrom mTo mCrossings mEdges mMet mUpper mLower mTape mTaped mPoint mEnd mBegin mFaultAt mFive mTold mActs mFar mViews mHullX mHullY mEndX mEndY mHeightUp mHeightLow mMeets mMeetsOf Rw) := ⟨_, rfl⟩
  rw [← hQq]
  unfold fX11_widestBundle at hf
  refine lv_iconst (v := (0 : Int32)) hx hb dX11_widestBundle_0 (by decide) ?_
  refine lv_istore_n (lv' := [(1, .int (0 : Int32)), (0, .ref (xsA X 100))]) hx hb dX11_widestBundle_1 rfl hl (by decide) rfl (fun ls hl => ?_)
  refine lv_iconst (v := (0 : Int32)) hx hb dX11_widestBundle_2 (by decide) ?_
  refine lv_istore_n (lv' := [(2, .int (0 : Int32)), (1, .int (0 : Int32)), (0, .ref (xsA X 100))]) hx hb dX11_widestBundle_3 rfl hl (by decide) rfl (fun ls hl => ?_)
  have K3 : ∀ (y4 : Int32) (hf : fX11_widestBundle_J37 y4 = some out) (H : Heap) (locs : List Loc) (ls : Array Slot), va_P (xsD X) vwCl (wM X mThrown mWorld mImage mDraft mEarlier mRemembered mHasImage mIsLaid mOne mTwo mShare mX mY mD mEventX mEventY mEventD mEvents mCrossingOf mBundle mEventOf mDegree mFrom mTo mCrossings mEdges mMet mUpper mLower mTape mTaped mPoint mEnd mBegin mFaultAt mFive mTold mActs mFar mViews mHullX mHullY mEndX mEndY mHeightUp mHeightLow mMeets mMeetsOf Rw) H → va_D (xsF X) (wM X mThrown mWorld mImage mDraft mEarlier mRemembered mHasImage mIsLaid mOne mTwo mShare mX mY mD mEventX mEventY mEventD mEvents mCrossingOf mBundle mEventOf mDegree mFrom mTo mCrossings mEdges mMet mUpper mLower mTape mTaped mPoint mEnd mBegin mFaultAt mFive mTold mActs mFar mViews mHullX mHullY mEndX mEndY mHeightUp mHeightLow mMeets mMeetsOf Rw) → va_S (xsF X) s.heap H locs → lv_has ls 3 [(1, .int y4)] → W p l e { frames := 1, cells := 0, slots := 0, locals := 24 } s m ([.ref (xsA X 100)] : List Value).toArray below meth c H locs 0 0 (MQ below Qq ([.ref (xsA X 100)] : List Value).toArray s 0 0 (xsF X)) (F0 m 37 ls []) := by
    intro y4 hf H locs ls hP hD hS hl
    unfold fX11_widestBundle_J37 at hf
    refine lv_iload_n hx hb dX11_widestBundle_37 rfl (lv_at hl 0 rfl) ?_
    have ho := Option.some.inj hf
    subst ho
    rw [hQq]
    exact xs_iret C hr hlk hP hD hS dX11_widestBundle_38
  replace hf := xsBd_use hf
  obtain ⟨r3, hk30, hf⟩ := hf
  have L3 : ∀ (sg : Int32 × Int32) (rg : Int32), xsWh (fun s3 => fX11_widestBundle_L4 mBundle mEventOf mCrossings s3.1 s3.2) sg = some rg → (fX11_widestBundle_J37 rg = some out → ∀ (H : Heap) (locs : List Loc) (ls : Array Slot), va_P (xsD X) vwCl (wM X mThrown mWorld mImage mDraft mEarlier mRemembered mHasImage mIsLaid mOne mTwo mShare mX mY mD mEventX mEventY mEventD mEvents mCrossingOf mBundle mEventOf mDegree mFrom mTo mCrossings mEdges mMet mUpper mLower mTape mTaped mPoint mEnd mBegin mFaultAt mFive mTold mActs mFar mViews mHullX mHullY mEndX mEndY mHeightUp mHeightLow mMeets mMeetsOf Rw) H → va_D (xsF X) (wM X mThrown mWorld mImage mDraft mEarlier mRemembered mHasImage mIsLaid mOne mTwo mShare mX mY mD mEventX mEventY mEventD mEvents mCrossingOf mBundle mEventOf mDegree mFrom mTo mCrossings mEdges mMet mUpper mLower mTape mTaped mPoint mEnd mBegin mFaultAt mFive mTold mActs mFar mViews mHullX mHullY mEndX mEndY mHeightUp mHeightLow mMeets mMeetsOf Rw) → va_S (xsF X) s.heap H locs → lv_has ls 3 [(0, .ref (xsA X 100)), (1, .int sg.1), (2, .int sg.2)] → W p l e { frames := 1, cells := 0, slots := 0, locals := 24 } s m ([.ref (xsA X 100)] : List Value).toArray below meth c H locs 0 0 (MQ below Qq ([.ref (xsA X 100)] : List Value).toArray s 0 0 (xsF X)) (F0 m 4 ls [])) := by
    refine xsWh_ind ?_
    intro sg r3 u3 hf ih3 hx3 hk3 H locs ls hP hD hS hl
    obtain ⟨y1, y2⟩ := sg
    replace hf : fX11_widestBundle_L4 mBundle mEventOf mCrossings y1 y2 = some u3 := hf
    replace hl : lv_has ls 3 [(0, .ref (xsA X 100)), (1, .int y1), (2, .int y2)] := hl
    replace hP : va_P (xsD X) vwCl (wM X mThrown mWorld mImage mDraft mEarlier mRemembered mHasImage mIsLaid mOne mTwo mShare mX mY mD mEventX mEventY mEventD mEvents mCrossingOf mBundle mEventOf mDegree mFrom mTo mCrossings mEdges mMet mUpper mLower mTape mTaped mPoint mEnd mBegin mFaultAt mFive mTold mActs mFar mViews mHullX mHullY mEndX mEndY mHeightUp mHeightLow mMeets mMeetsOf Rw) H := hP
    replace hD : va_D (xsF X) (wM X mThrown mWorld mImage mDraft mEarlier mRemembered mHasImage mIsLaid mOne mTwo mShare mX mY mD mEventX mEventY mEventD mEvents mCrossingOf mBundle mEventOf mDegree mFrom mTo mCrossings mEdges mMet mUpper mLower mTape mTaped mPoint mEnd mBegin mFaultAt mFive mTold mActs mFar mViews mHullX mHullY mEndX mEndY mHeightUp mHeightLow mMeets mMeetsOf Rw) := hD
    unfold fX11_widestBundle_L4 at hf
    refine lv_iload_n hx hb dX11_widestBundle_4 rfl (lv_at hl 2 rfl) ?_
    refine lv_aload_n hx hb dX11_widestBundle_5 rfl (lv_at hl 0 rfl) ?_
    refine xg_X11_206 C hP dX11_widestBundle_6 ?_
    refine lv_icmp_ge (tgt := 37) hx hb dX11_widestBundle_9 (by decide) (fun c11 => ?_) (fun c11 => ?_)
    · replace hf := xsBr_t c11 hf
      have ez := hx3 _ (Option.some.inj hf).symm
      subst ez
      exact K3 y1 hk3 H locs ls hP hD hS (lv_sub hl [1] rfl)
    · replace hf := xsBr_f c11 hf
      refine lv_iload_n hx hb dX11_widestBundle_12 rfl (lv_at hl 1 rfl) ?_
      refine lv_aload_n hx hb dX11_widestBundle_13 rfl (lv_at hl 0 rfl) ?_
      refine xg_X11_48 C hP dX11_widestBundle_14 ?_
      refine lv_aload_n hx hb dX11_widestBundle_17 rfl (lv_at hl 0 rfl) ?_
      refine xg_X11_51 C hP dX11_widestBundle_18 ?_
      refine lv_iload_n hx hb dX11_widestBundle_21 rfl (lv_at hl 2 rfl) ?_
      replace hf := xsCk_use hf
      obtain ⟨h5, hf⟩ := hf
      refine xl_mEventOf C hP h5 dX11_widestBundle_22 ?_
      replace hf := xsCk_use hf
      obtain ⟨h6, hf⟩ := hf
      refine xl_mBundle C hP h6 dX11_widestBundle_23 ?_
      replace hf := xsBd_use hf
      obtain ⟨o7, h8, hf⟩ := hf
      refine xs_calli hS (xs_runS (As := [.int (mBundle (mEventOf y2.toNatClampNeg).toNatClampNeg)]) C (mX11_bits l  h8) w_1783 w_1784 w_115 w_1785 hd_X11_bits ⟨rfl, rfl, Nat.le_of_ble_eq_true rfl, Nat.le_of_ble_eq_true rfl, Nat.zero_le _, Nat.zero_le _⟩ hP hD hS hl.1 rfl (Nat.le_of_ble_eq_true rfl) dX11_widestBundle_24) (fun H locs hP hD hS => ?_)
      refine va_mmax hx hb (C.2.2.1.trans hl.1.symm) C.2.2.2.1 (xs_kts C _ w_1676) (xs_kts C _ w_697) (xs_kts C _ w_125) (xs_kts C _ w_698) (Nat.le_of_ble_eq_true rfl) (Nat.le_of_ble_eq_true rfl) (Nat.zero_le _) (Nat.zero_le _) dX11_widestBundle_27 ?_
      refine lv_topi (fun x9 ex9 => ?_)
      replace hf := xsLt_use ex9 hf
      refine lv_istore_n (lv' := [(1, .int x9), (0, .ref (xsA X 100)), (2, .int y2)]) hx hb dX11_widestBundle_30 rfl hl (by decide) rfl (fun ls hl => ?_)
      obtain ⟨x10, ex10⟩ : ∃ y : Int32, y = y2 + (1 : Int32) := ⟨_, rfl⟩
      replace hf := xsLt_use ex10 hf
      refine lv_iinc (v := x10) (lv' := [(2, .int x10), (1, .int x9), (0, .ref (xsA X 100))]) hx hb dX11_widestBundle_31 hl (k := 2) rfl (by rw [ex10]; rfl) (by decide) rfl (fun ls hl => ?_)
      refine lv_goto (tgt := 4) hx hb dX11_widestBundle_34 (by decide) ?_
      exact ih3 _ (Option.some.inj hf).symm hk3 H locs ls hP hD hS (lv_sub hl [2, 1, 0] rfl)
  exact L3 ((0 : Int32), (0 : Int32)) r3 hk30 hf H locs ls hP hD hS (lv_sub hl [2, 1, 0] rfl)
set_option maxRecDepth 100000 in
set_option maxHeartbeats 8000000 in
theorem mX11_count (l : Launch) {X : xsX} {mThrown mRemembered mHasImage mIsLaid mEvents mCrossings mEdges mTaped mPoint mEnd mBegin mFaultAt mActs : Int32} {mWorld mImage mDraft mEarlier mOne mTwo mShare mCrossingOf mBundle mEventOf mDegree mFrom mTo mMet mTape mFive mTold mFar mViews mHullX mHullY mEndX mEndY mMeets mMeetsOf : Nat → Int32} {mX mY mD mHeightUp mHeightLow : Int64} {mEventX mEventY mEventD mUpper mLower : Nat → Int64} {Rw : va_W} {a0 : Int32} {out : Int32 × Int32 × Int32 × (Nat → Int32) × (Nat → Int32) × (Nat → Int32) × Int64 × Int64 × Int64 × (Nat → Int64) × (Nat → Int64) × (Nat → Int64) × Int32 × (Nat → Int32) × (Nat → Int32) × (Nat → Int32) × (Nat → Int32) × (Nat → Int32) × (Nat → Int32) × Int32 × Int32 × (Nat → Int32) × (Nat → Int64) × (Nat → Int64) × (Nat → Int32) × (Nat → Int32) × (Nat → Int32) × (Nat → Int32) × (Nat → Int32) × (Nat → Int32)} (hf : fX11_count mThrown mWorld mRemembered mIsLaid mOne mTwo mShare mX mY mD mEventX mEventY mEventD mEvents mCrossingOf mBundle mEventOf mDegree mFrom mTo mCrossings mEdges mMet mUpper mLower mHullX mHullY mEndX mEndY mMeets mMeetsOf a0 = some out) : Met l yX11_count (xsWs yX11_count cX11_count 2 (some .int)) { frames := 8, cells := 0, slots := 0, locals := 210 } (xsP X (wM X mThrown mWorld mImage mDraft mEarlier mRemembered mHasImage mIsLaid mOne mTwo mShare mX mY mD mEventX mEventY mEventD mEvents mCrossingOf mBundle mEventOf mDegree mFrom mTo mCrossings mEdges mMet mUpper mLower mTape mTaped mPoint mEnd mBegin mFaultAt mFive mTold mActs mFar mViews mHullX mHullY mEndX mEndY mHeightUp mHeightLow mMeets mMeetsOf Rw) [.ref (xsA X 100), .int a0]) (xsQi X out.1 (wM X out.2.1 mWorld mImage mDraft mEarlier mRemembered mHasImage out.2.2.1 out.2.2.2.1 out.2.2.2.2.1 out.2.2.2.2.2.1 out.2.2.2.2.2.2.1 out.2.2.2.2.2.2.2.1 out.2.2.2.2.2.2.2.2.1 out.2.2.2.2.2.2.2.2.2.1 out.2.2.2.2.2.2.2.2.2.2.1 out.2.2.2.2.2.2.2.2.2.2.2.1 out.2.2.2.2.2.2.2.2.2.2.2.2.1 out.2.2.2.2.2.2.2.2.2.2.2.2.2.1 out.2.2.2.2.2.2.2.2.2.2.2.2.2.2.1 out.2.2.2.2.2.2.2.2.2.2.2.2.2.2.2.1 out.2.2.2.2.2.2.2.2.2.2.2.2.2.2.2.2.1 out.2.2.2.2.2.2.2.2.2.2.2.2.2.2.2.2.2.1 out.2.2.2.2.2.2.2.2.2.2.2.2.2.2.2.2.2.2.1 out.2.2.2.2.2.2.2.2.2.2.2.2.2.2.2.2.2.2.2.1 out.2.2.2.2.2.2.2.2.2.2.2.2.2.2.2.2.2.2.2.2.1 out.2.2.2.2.2.2.2.2.2.2.2.2.2.2.2.2.2.2.2.2.2.1 out.2.2.2.2.2.2.2.2.2.2.2.2.2.2.2.2.2.2.2.2.2.2.1 out.2.2.2.2.2.2.2.2.2.2.2.2.2.2.2.2.2.2.2.2.2.2.2.1 mTape mTaped mPoint mEnd mBegin mFaultAt mFive mTold mActs mFar mViews out.2.2.2.2.2.2.2.2.2.2.2.2.2.2.2.2.2.2.2.2.2.2.2.2.1 out.2.2.2.2.2.2.2.2.2.2.2.2.2.2.2.2.2.2.2.2.2.2.2.2.2.1 out.2.2.2.2.2.2.2.2.2.2.2.2.2.2.2.2.2.2.2.2.2.2.2.2.2.2.1 out.2.2.2.2.2.2.2.2.2.2.2.2.2.2.2.2.2.2.2.2.2.2.2.2.2.2.2.1 mHeightUp mHeightLow out.2.2.2.2.2.2.2.2.2.2.2.2.2.2.2.2.2.2.2.2.2.2.2.2.2.2.2.2.1 out.2.2.2.2.2.2.2.2.2.2.2.2.2.2.2.2.2.2.2.2.2.2.2.2.2.2.2.2.2 Rw)) 0 0 (xsF X) := by
  refine xs_meth RX11 (by decide) rfl (Nat.le_of_ble_eq_true rfl) ?_
  intro p e s m below meth c ls H locs C hP hD hS hr hlk hl
  have hx := C.1
  have hb := C.2.1
  have hl : lv_has ls 2 [(0, .ref (xsA X 100)), (1, .int a0)] := hl
  obtain ⟨Qq, hQq⟩ : ∃ Qq, Qq = xsQi X out.1 (wM X out.2.1 mWorld mImage mDraft mEarlier mRemembered mHasImage out.2.2.1 out.2.2.2.1 out.2.2.2.2.1 out.2.2.2.2.2.1 out.2.2.2.2.2.2.1 out.2.2.2.2.2.2.2.1 out.2.2.2.2.2.2.2.2.1 out.2.2.2.2.2.2.2.2.2.1 out.2.2.2.2.2.2.2.2.2.2.1 out.2.2.2.2.2.2.2.2.2.2.2.1 out.2.2.2.2.2.2.2.2.2.2.2.2.1 out.2.2.2.2.2.2.2.2.2.2.2.2.2.1 out.2.2.2.2.2.2.2.2.2.2.2.2.2.2.1 out.2.2.2.2.2.2.2.2.2.2.2.2.2.2.2.1 out.2.2.2.2.2.2.2.2.2.2.2.2.2.2.2.2.1 out.2.2.2.2.2.2.2.2.2.2.2.2.2.2.2.2.2.1 out.2.2.2.2.2.2.2.2.2.2.2.2.2.2.2.2.2.2.1 out.2.2.2.2.2.2.2.2.2.2.2.2.2.2.2.2.2.2.2.1 out.2.2.2.2.2.2.2.2.2.2.2.2.2.2.2.2.2.2.2.2.1 out.2.2.2.2.2.2.2.2.2.2.2.2.2.2.2.2.2.2.2.2.2.1 out.2.2.2.2.2.2.2.2.2.2.2.2.2.2.2.2.2.2.2.2.2.2.1 out.2.2.2.2.2.2.2.2.2.2.2.2.2.2.2.2.2.2.2.2.2.2.2.1 mTape mTaped mPoint mEnd mBegin mFaultAt mFive mTold mActs mFar mViews out.2.2.2.2.2.2.2.2.2.2.2.2.2.2.2.2.2.2.2.2.2.2.2.2.1 out.2.2.2.2.2.2.2.2.2.2.2.2.2.2.2.2.2.2.2.2.2.2.2.2.2.1 out.2.2.2.2.2.2.2.2.2.2.2.2.2.2.2.2.2.2.2.2.2.2.2.2.2.2.1 out.2.2.2.2.2.2.2.2.2.2.2.2.2.2.2.2.2.2.2.2.2.2.2.2.2.2.2.1 mHeightUp mHeightLow out.2.2.2.2.2.2.2.2.2.2.2.2.2.2.2.2.2.2.2.2.2.2.2.2.2.2.2.2.1 out.2.2.2.2.2.2.2.2.2.2.2.2.2.2.2.2.2.2.2.2.2.2.2.2.2.2.2.2.2 Rw) := ⟨_, rfl⟩
  rw [← hQq]
  unfold fX11_count at hf
  refine lv_aload_n hx hb dX11_count_0 rfl (lv_at hl 0 rfl) ?_
  refine lv_iconst (v := (0 : Int32)) hx hb dX11_count_1 (by decide) ?_
  refine xp_X11_3 C hP hD hS dX11_count_2 (fun H locs hP hD hS => ?_)
  refine lv_aload_n hx hb dX11_count_5 rfl (lv_at hl 0 rfl) ?_
  replace hf := xsBd_use hf
  obtain ⟨o1, h2, hf⟩ := hf
  refine xs_callv hS (xs_runV (As := []) C (mX11_lays l  h2) w_1646 w_1648 w_56 w_115 w_1649 hd_X11_lays ⟨rfl, rfl, Nat.le_of_ble_eq_true rfl, Nat.le_of_ble_eq_true rfl, Nat.zero_le _, Nat.zero_le _⟩ hP hD hS lk_X11 rfl hl.1 rfl (Nat.le_of_ble_eq_true rfl) dX11_count_6) (fun H locs hP hD hS => ?_)
  refine lv_iload_n hx hb dX11_count_9 rfl (lv_at hl 1 rfl) ?_
  by_cases c27_0 : a0 = 0
  · replace hf := xsBr_t c27_0 hf
    refine lv_tableIn (tgt := 88) hx hb dX11_count_10 (by rw [c27_0]; decide) (by rw [c27_0]; decide) (by rw [c27_0]; rfl) (by decide) ?_
    refine lv_aload_n hx hb dX11_count_88 rfl (lv_at hl 0 rfl) ?_
    replace hf := xsBd_use hf
    obtain ⟨o3, h4, hf⟩ := hf
    refine xs_calli hS (xs_runV (As := []) C (mX11_many l  h4) w_1581 w_1583 w_44 w_115 w_1584 hd_X11_many ⟨rfl, rfl, Nat.le_of_ble_eq_true rfl, Nat.le_of_ble_eq_true rfl, Nat.zero_le _, Nat.zero_le _⟩ hP hD hS lk_X11 rfl hl.1 rfl (Nat.le_of_ble_eq_true rfl) dX11_count_89) (fun H locs hP hD hS => ?_)
    have ho := Option.some.inj hf
    subst ho
    rw [hQq]
    exact xs_iret C hr hlk hP hD hS dX11_count_92
  replace hf := xsBr_f c27_0 hf
  by_cases c27_1 : a0 = 1
  · replace hf := xsBr_t c27_1 hf
    refine lv_tableIn (tgt := 93) hx hb dX11_count_10 (by rw [c27_1]; decide) (by rw [c27_1]; decide) (by rw [c27_1]; rfl) (by decide) ?_
    refine lv_aload_n hx hb dX11_count_93 rfl (lv_at hl 0 rfl) ?_
    refine xg_X11_206 C hP dX11_count_94 ?_
    have ho := Option.some.inj hf
    subst ho
    rw [hQq]
    exact xs_iret C hr hlk hP hD hS dX11_count_97
  replace hf := xsBr_f c27_1 hf
  by_cases c27_2 : a0 = 2
  · replace hf := xsBr_t c27_2 hf
    refine lv_tableIn (tgt := 98) hx hb dX11_count_10 (by rw [c27_2]; decide) (by rw [c27_2]; decide) (by rw [c27_2]; rfl) (by decide) ?_
    refine lv_aload_n hx hb dX11_count_98 rfl (lv_at hl 0 rfl) ?_
    refine xg_X11_193 C hP dX11_count_99 ?_
    have ho := Option.some.inj hf
    subst ho
    rw [hQq]
    exact xs_iret C hr hlk hP hD hS dX11_count_102
  replace hf := xsBr_f c27_2 hf
  by_cases c27_3 : a0 = 3
  · replace hf := xsBr_t c27_3 hf
    refine lv_tableIn (tgt := 103) hx hb dX11_count_10 (by rw [c27_3]; decide) (by rw [c27_3]; decide) (by rw [c27_3]; rfl) (by decide) ?_
    refine lv_aload_n hx hb dX11_count_103 rfl (lv_at hl 0 rfl) ?_
    refine lv_iconst (v := (2 : Int32)) hx hb dX11_count_104 (by decide) ?_
    replace hf := xsBd_use hf
    obtain ⟨o5, h6, hf⟩ := hf
    refine xs_calli hS (xs_runV (As := [.int (2 : Int32)]) C (mX11_pairs l  h6) w_1941 w_1943 w_97 w_115 w_1944 hd_X11_pairs ⟨rfl, rfl, Nat.le_of_ble_eq_true rfl, Nat.le_of_ble_eq_true rfl, Nat.zero_le _, Nat.zero_le _⟩ hP hD hS lk_X11 rfl hl.1 rfl (Nat.le_of_ble_eq_true rfl) dX11_count_105) (fun H locs hP hD hS => ?_)
    have ho := Option.some.inj hf
    subst ho
    rw [hQq]
    exact xs_iret C hr hlk hP hD hS dX11_count_108
  replace hf := xsBr_f c27_3 hf
  by_cases c27_4 : a0 = 4
  · replace hf := xsBr_t c27_4 hf
    refine lv_tableIn (tgt := 109) hx hb dX11_count_10 (by rw [c27_4]; decide) (by rw [c27_4]; decide) (by rw [c27_4]; rfl) (by decide) ?_
    refine lv_aload_n hx hb dX11_count_109 rfl (lv_at hl 0 rfl) ?_
    refine xg_X11_213 C hP dX11_count_110 ?_
    have ho := Option.some.inj hf
    subst ho
    rw [hQq]
    exact xs_iret C hr hlk hP hD hS dX11_count_113
  replace hf := xsBr_f c27_4 hf
  by_cases c27_5 : a0 = 5
  · replace hf := xsBr_t c27_5 hf
    refine lv_tableIn (tgt := 114) hx hb dX11_count_10 (by rw [c27_5]; decide) (by rw [c27_5]; decide) (by rw [c27_5]; rfl) (by decide) ?_
    refine lv_aload_n hx hb dX11_count_114 rfl (lv_at hl 0 rfl) ?_
    replace hf := xsBd_use hf
    obtain ⟨o7, h8, hf⟩ := hf
    refine xs_calli hS (xs_runV (As := []) C (mX11_parts l  h8) w_1945 w_1947 w_98 w_115 w_1948 hd_X11_parts ⟨rfl, rfl, Nat.le_of_ble_eq_true rfl, Nat.le_of_ble_eq_true rfl, Nat.zero_le _, Nat.zero_le _⟩ hP hD hS lk_X11 rfl hl.1 rfl (Nat.le_of_ble_eq_true rfl) dX11_count_115) (fun H locs hP hD hS => ?_)
    have ho := Option.some.inj hf
    subst ho
    rw [hQq]
    exact xs_iret C hr hlk hP hD hS dX11_count_118
  replace hf := xsBr_f c27_5 hf
  by_cases c27_6 : a0 = 6
  · replace hf := xsBr_t c27_6 hf
    refine lv_tableIn (tgt := 119) hx hb dX11_count_10 (by rw [c27_6]; decide) (by rw [c27_6]; decide) (by rw [c27_6]; rfl) (by decide) ?_
    refine lv_aload_n hx hb dX11_count_119 rfl (lv_at hl 0 rfl) ?_
    refine xg_X11_213 C hP dX11_count_120 ?_
    refine lv_aload_n hx hb dX11_count_123 rfl (lv_at hl 0 rfl) ?_
    replace hf := xsBd_use hf
    obtain ⟨o9, h10, hf⟩ := hf
    refine xs_calli hS (xs_runV (As := []) C (mX11_parts l  h10) w_1945 w_1947 w_98 w_115 w_1948 hd_X11_parts ⟨rfl, rfl, Nat.le_of_ble_eq_true rfl, Nat.le_of_ble_eq_true rfl, Nat.zero_le _, Nat.zero_le _⟩ hP hD hS lk_X11 rfl hl.1 rfl (Nat.le_of_ble_eq_true rfl) dX11_count_124) (fun H locs hP hD hS => ?_)
    refine lv_iadd hx hb dX11_count_127 ?_
    refine lv_iconst (v := (1 : Int32)) hx hb dX11_count_128 (by decide) ?_
    refine lv_iadd hx hb dX11_count_129 ?_
    refine lv_aload_n hx hb dX11_count_130 rfl (lv_at hl 0 rfl) ?_
    refine xg_X11_193 C hP dX11_count_131 ?_
    refine lv_isub hx hb dX11_count_134 ?_
    have ho := Option.some.inj hf
    subst ho
    rw [hQq]
    exact xs_iret C hr hlk hP hD hS dX11_count_135
  replace hf := xsBr_f c27_6 hf
  by_cases c27_7 : a0 = 7
  · replace hf := xsBr_t c27_7 hf
    refine lv_tableIn (tgt := 136) hx hb dX11_count_10 (by rw [c27_7]; decide) (by rw [c27_7]; decide) (by rw [c27_7]; rfl) (by decide) ?_
    refine lv_aload_n hx hb dX11_count_136 rfl (lv_at hl 0 rfl) ?_
    replace hf := xsBd_use hf
    obtain ⟨o11, h12, hf⟩ := hf
    refine xs_calli hS (xs_runV (As := []) C (mX11_widestBundle l  h12) w_1949 w_1951 w_99 w_115 w_1952 hd_X11_widestBundle ⟨rfl, rfl, Nat.le_of_ble_eq_true rfl, Nat.le_of_ble_eq_true rfl, Nat.zero_le _, Nat.zero_le _⟩ hP hD hS lk_X11 rfl hl.1 rfl (Nat.le_of_ble_eq_true rfl) dX11_count_137) (fun H locs hP hD hS => ?_)
    have ho := Option.some.inj hf
    subst ho
    rw [hQq]
    exact xs_iret C hr hlk hP hD hS dX11_count_140
  replace hf := xsBr_f c27_7 hf
  by_cases c27_8 : a0 = 8
  · replace hf := xsBr_t c27_8 hf
    refine lv_tableIn (tgt := 141) hx hb dX11_count_10 (by rw [c27_8]; decide) (by rw [c27_8]; decide) (by rw [c27_8]; rfl) (by decide) ?_
    refine lv_aload_n hx hb dX11_count_141 rfl (lv_at hl 0 rfl) ?_
    refine lv_iconst (v := (0 : Int32)) hx hb dX11_count_142 (by decide) ?_
    replace hf := xsBd_use hf
    obtain ⟨o13, h14, hf⟩ := hf
    refine xs_calli hS (xs_runV (As := [.int (0 : Int32)]) C (mX11_mostStatus l  h14) w_1953 w_1955 w_100 w_115 w_1956 hd_X11_mostStatus ⟨rfl, rfl, Nat.le_of_ble_eq_true rfl, Nat.le_of_ble_eq_true rfl, Nat.zero_le _, Nat.zero_le _⟩ hP hD hS lk_X11 rfl hl.1 rfl (Nat.le_of_ble_eq_true rfl) dX11_count_143) (fun H locs hP hD hS => ?_)
    have ho := Option.some.inj hf
    subst ho
    rw [hQq]
    exact xs_iret C hr hlk hP hD hS dX11_count_146
  replace hf := xsBr_f c27_8 hf
  by_cases c27_9 : a0 = 9
  · replace hf := xsBr_t c27_9 hf
    refine lv_tableIn (tgt := 147) hx hb dX11_count_10 (by rw [c27_9]; decide) (by rw [c27_9]; decide) (by rw [c27_9]; rfl) (by decide) ?_
    refine lv_aload_n hx hb dX11_count_147 rfl (lv_at hl 0 rfl) ?_
    refine lv_iconst (v := (1 : Int32)) hx hb dX11_count_148 (by decide) ?_
    replace hf := xsBd_use hf
    obtain ⟨o15, h16, hf⟩ := hf
    refine xs_calli hS (xs_runV (As := [.int (1 : Int32)]) C (mX11_mostStatus l  h16) w_1953 w_1955 w_100 w_115 w_1956 hd_X11_mostStatus ⟨rfl, rfl, Nat.le_of_ble_eq_true rfl, Nat.le_of_ble_eq_true rfl, Nat.zero_le _, Nat.zero_le _⟩ hP hD hS lk_X11 rfl hl.1 rfl (Nat.le_of_ble_eq_true rfl) dX11_count_149) (fun H locs hP hD hS => ?_)
    have ho := Option.some.inj hf
    subst ho
    rw [hQq]
    exact xs_iret C hr hlk hP hD hS dX11_count_152
  replace hf := xsBr_f c27_9 hf
  by_cases c27_10 : a0 = 10
  · replace hf := xsBr_t c27_10 hf
    refine lv_tableIn (tgt := 153) hx hb dX11_count_10 (by rw [c27_10]; decide) (by rw [c27_10]; decide) (by rw [c27_10]; rfl) (by decide) ?_
    refine lv_aload_n hx hb dX11_count_153 rfl (lv_at hl 0 rfl) ?_
    replace hf := xsBd_use hf
    obtain ⟨o17, h18, hf⟩ := hf
    refine xs_calli hS (xs_runV (As := []) C (mX11_blame l  h18) w_1957 w_1959 w_101 w_115 w_1960 hd_X11_blame ⟨rfl, rfl, Nat.le_of_ble_eq_true rfl, Nat.le_of_ble_eq_true rfl, Nat.zero_le _, Nat.zero_le _⟩ hP hD hS lk_X11 rfl hl.1 rfl (Nat.le_of_ble_eq_true rfl) dX11_count_154) (fun H locs hP hD hS => ?_)
    have ho := Option.some.inj hf
    subst ho
    rw [hQq]
    exact xs_iret C hr hlk hP hD hS dX11_count_157
  replace hf := xsBr_f c27_10 hf
  by_cases c27_11 : a0 = 11
  · replace hf := xsBr_t c27_11 hf
    refine lv_tableIn (tgt := 158) hx hb dX11_count_10 (by rw [c27_11]; decide) (by rw [c27_11]; decide) (by rw [c27_11]; rfl) (by decide) ?_
    refine lv_aload_n hx hb dX11_count_158 rfl (lv_at hl 0 rfl) ?_
    refine xg_X11_113 C hP dX11_count_159 ?_
    have ho := Option.some.inj hf
    subst ho
    rw [hQq]
    exact xs_iret C hr hlk hP hD hS dX11_count_162
  replace hf := xsBr_f c27_11 hf
  by_cases c27_12 : a0 = 12
  · replace hf := xsBr_t c27_12 hf
    refine lv_tableIn (tgt := 163) hx hb dX11_count_10 (by rw [c27_12]; decide) (by rw [c27_12]; decide) (by rw [c27_12]; rfl) (by decide) ?_
    refine lv_aload_n hx hb dX11_count_163 rfl (lv_at hl 0 rfl) ?_
    replace hf := xsBd_use hf
    obtain ⟨o19, h20, hf⟩ := hf
    refine xs_calli hS (xs_runV (As := []) C (mX11_odd l  h20) w_1961 w_1963 w_102 w_115 w_1964 hd_X11_odd ⟨rfl, rfl, Nat.le_of_ble_eq_true rfl, Nat.le_of_ble_eq_true rfl, Nat.zero_le _, Nat.zero_le _⟩ hP hD hS lk_X11 rfl hl.1 rfl (Nat.le_of_ble_eq_true rfl) dX11_count_164) (fun H locs hP hD hS => ?_)
    have ho := Option.some.inj hf
    subst ho
    rw [hQq]
    exact xs_iret C hr hlk hP hD hS dX11_count_167
  replace hf := xsBr_f c27_12 hf
  by_cases c27_13 : a0 = 13
  · replace hf := xsBr_t c27_13 hf
    refine lv_tableIn (tgt := 168) hx hb dX11_count_10 (by rw [c27_13]; decide) (by rw [c27_13]; decide) (by rw [c27_13]; rfl) (by decide) ?_
    refine lv_aload_n hx hb dX11_count_168 rfl (lv_at hl 0 rfl) ?_
    replace hf := xsBd_use hf
    obtain ⟨o21, h22, hf⟩ := hf
    refine xs_calli hS (xs_runV (As := []) C (mX11_spreads l  h22) w_1965 w_1967 w_103 w_115 w_1968 hd_X11_spreads ⟨rfl, rfl, Nat.le_of_ble_eq_true rfl, Nat.le_of_ble_eq_true rfl, Nat.zero_le _, Nat.zero_le _⟩ hP hD hS lk_X11 rfl hl.1 rfl (Nat.le_of_ble_eq_true rfl) dX11_count_169) (fun H locs hP hD hS => ?_)
    have ho := Option.some.inj hf
    subst ho
    rw [hQq]
    exact xs_iret C hr hlk hP hD hS dX11_count_172
  replace hf := xsBr_f c27_13 hf
  by_cases c27_14 : a0 = 14
  · replace hf := xsBr_t c27_14 hf
    refine lv_tableIn (tgt := 173) hx hb dX11_count_10 (by rw [c27_14]; decide) (by rw [c27_14]; decide) (by rw [c27_14]; rfl) (by decide) ?_
    refine lv_aload_n hx hb dX11_count_173 rfl (lv_at hl 0 rfl) ?_
    replace hf := xsBd_use hf
    obtain ⟨o23, h24, hf⟩ := hf
    refine xs_calli hS (xs_runV (As := []) C (mX11_laysHull l  h24) w_1871 w_1873 w_88 w_115 w_1874 hd_X11_laysHull ⟨rfl, rfl, Nat.le_of_ble_eq_true rfl, Nat.le_of_ble_eq_true rfl, Nat.zero_le _, Nat.zero_le _⟩ hP hD hS lk_X11 rfl hl.1 rfl (Nat.le_of_ble_eq_true rfl) dX11_count_174) (fun H locs hP hD hS => ?_)
    have ho := Option.some.inj hf
    subst ho
    rw [hQq]
    exact xs_iret C hr hlk hP hD hS dX11_count_177
  replace hf := xsBr_f c27_14 hf
  by_cases c27_15 : a0 = 15
  · replace hf := xsBr_t c27_15 hf
    refine lv_tableIn (tgt := 178) hx hb dX11_count_10 (by rw [c27_15]; decide) (by rw [c27_15]; decide) (by rw [c27_15]; rfl) (by decide) ?_
    refine lv_aload_n hx hb dX11_count_178 rfl (lv_at hl 0 rfl) ?_
    refine lv_iconst (v := (1 : Int32)) hx hb dX11_count_179 (by decide) ?_
    replace hf := xsBd_use hf
    obtain ⟨o25, h26, hf⟩ := hf
    refine xs_calli hS (xs_runV (As := [.int (1 : Int32)]) C (mX11_pairs l  h26) w_1941 w_1943 w_97 w_115 w_1944 hd_X11_pairs ⟨rfl, rfl, Nat.le_of_ble_eq_true rfl, Nat.le_of_ble_eq_true rfl, Nat.zero_le _, Nat.zero_le _⟩ hP hD hS lk_X11 rfl hl.1 rfl (Nat.le_of_ble_eq_true rfl) dX11_count_180) (fun H locs hP hD hS => ?_)
    have ho := Option.some.inj hf
    subst ho
    rw [hQq]
    exact xs_iret C hr hlk hP hD hS dX11_count_183
  replace hf := xsBr_f c27_15 hf
  refine lv_tableOut (tgt := 184) hx hb dX11_count_10 (xs_swo [0, 1, 2, 3, 4, 5, 6, 7, 8, 9, 10, 11, 12, 13, 14, 15] (by decide) ⟨c27_0, c27_1, c27_2, c27_3, c27_4, c27_5, c27_6, c27_7, c27_8, c27_9, c27_10, c27_11, c27_12, c27_13, c27_14, c27_15, trivial⟩) (by decide) ?_
  refine lv_iconst (v := (-1 : Int32)) hx hb dX11_count_184 (by decide) ?_
  have ho := Option.some.inj hf
  subst ho
  rw [hQq]
  exact xs_iret C hr hlk hP hD hS dX11_count_185
