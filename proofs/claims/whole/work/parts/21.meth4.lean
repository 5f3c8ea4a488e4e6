set_option maxRecDepth 100000 in
set_option maxHeartbeats 8000000 in
theorem mX11_takes (l : Launch) {X : xsX} {mThrown mRemembered mHasImage mIsLaid mEvents mCrossings mEdges mTaped mPoint mEnd mBegin mFaultAt mActs : Int32} {mWorld mImage mDraft mEarlier mOne mTwo mShare mCrossingOf mBundle mEventOf mDegree mFrom mTo mMet mTape mFive mTold mFar mViews mHullX mHullY mEndX mEndY mMeets mMeetsOf : Nat → Int32} {mX mY mD mHeightUp mHeightLow : Int64} {mEventX mEventY mEventD mUpper mLower : Nat → Int64} {Rw : va_W} {a1 : Int32} {out : (Nat → Int32)} (hf : fX11_takes mWorld mOne a1 = some out) : Met l yX11_takes (xsWs yX11_takes cX11_takes 4 none) { frames := 1, cells := 0, slots := 0, locals := 22 } (xsP X (wM X mThrown mWorld mImage mDraft mEarlier mRemembered mHasImage mIsLaid mOne mTwo mShare mX mY mD mEventX mEventY mEventD mEvents mCrossingOf mBundle mEventOf mDegree mFrom mTo mCrossings mEdges mMet mUpper mLower mTape mTaped mPoint mEnd mBegin mFaultAt mFive mTold mActs mFar mViews mHullX mHullY mEndX mEndY mHeightUp mHeightLow mMeets mMeetsOf Rw) [.ref (xsA X 100), .ref (xsA X 105), .int a1]) (xsQv X (wM X mThrown mWorld mImage mDraft mEarlier mRemembered mHasImage mIsLaid out mTwo mShare mX mY mD mEventX mEventY mEventD mEvents mCrossingOf mBundle mEventOf mDegree mFrom mTo mCrossings mEdges mMet mUpper mLower mTape mTaped mPoint mEnd mBegin mFaultAt mFive mTold mActs mFar mViews mHullX mHullY mEndX mEndY mHeightUp mHeightLow mMeets mMeetsOf Rw)) 0 0 (xsF X) := by
  refine xs_meth RX11 (by decide) rfl (Nat.le_of_ble_eq_true rfl) ?_
  intro p e s m below meth c ls H locs C hP hD hS hr hlk hl
  have hx := C.1
  have hb := C.2.1
  have hl : lv_has ls 4 [(0, .ref (xsA X 100)), (1, .ref (xsA X 105)), (2, .int a1)] := hl
  obtain ⟨Qq, hQq⟩ : ∃ Qq, Qq = xsQv X (wM X mThrown mWorld mImage mDraft mEarlier mRemembered mHasImage mIsLaid out mTwo mShare mX mY mD mEventX mEventY mEventD mEvents mCrossingOf mBundle mEventOf mDegree mFrom mTo mCrossings mEdges mMet mUpper mLower mTape mTaped mPoint mEnd mBegin mFaultAt mFive mTold mActs mFar mViews mHullX mHullY mEndX mEndY mHeightUp mHeightLow mMeets mMeetsOf Rw) := ⟨_, rfl⟩
  rw [← hQq]
  unfold fX11_takes at hf
  refine lv_iconst (v := (0 : Int32)) hx hb dX11_takes_0 (by decide) ?_
  refine lv_istore_n (lv' := [(3, .int (0 : Int32)), (0, .ref (xsA X 100)), (1, .ref (xsA X 105)), (2, .int a1)]) hx hb dX11_takes_1 rfl hl (by decide) rfl (fun ls hl => ?_)
  have K3 : ∀ (y4 : Nat → Int32) (hf : fX11_takes_J22 y4 = some out) (H : Heap) (locs : List Loc) (ls : Array Slot), va_P (xsD X) vwCl (wM X mThrown mWorld mImage mDraft mEarlier mRemembered mHasImage mIsLaid y4 mTwo mShare mX mY mD mEventX mEventY mEventD mEvents mCrossingOf mBundle mEventOf mDegree mFrom mTo mCrossings mEdges mMet mUpper mLower mTape mTaped mPoint mEnd mBegin mFaultAt mFive mTold mActs mFar mViews mHullX mHullY mEndX mEndY mHeightUp mHeightLow mMeets mMeetsOf Rw) H → va_D (xsF X) (wM X mThrown mWorld mImage mDraft mEarlier mRemembered mHasImage mIsLaid y4 mTwo mShare mX mY mD mEventX mEventY mEventD mEvents mCrossingOf mBundle mEventOf mDegree mFrom mTo mCrossings mEdges mMet mUpper mLower mTape mTaped mPoint mEnd mBegin mFaultAt mFive mTold mActs mFar mViews mHullX mHullY mEndX mEndY mHeightUp mHeightLow mMeets mMeetsOf Rw) → va_S (xsF X) s.heap H locs → lv_has ls 4 [] → W p l e { frames := 1, cells := 0, slots := 0, locals := 22 } s m ([.ref (xsA X 100), .ref (xsA X 105), .int a1] : List Value).toArray below meth c H locs 0 0 (MQ below Qq ([.ref (xsA X 100), .ref (xsA X 105), .int a1] : List Value).toArray s 0 0 (xsF X)) (F0 m 22 ls []) := by
    intro y4 hf H locs ls hP hD hS hl
    unfold fX11_takes_J22 at hf
    have ho := Option.some.inj hf
    subst ho
    rw [hQq]
    exact xs_vret C hr hlk hP hD hS dX11_takes_22
  replace hf := xsBd_use hf
  obtain ⟨r3, hk30, hf⟩ := hf
  have L3 : ∀ (sg : Int32 × (Nat → Int32)) (rg : (Nat → Int32)), xsWh (fun s3 => fX11_takes_L2 mWorld a1 s3.1 s3.2) sg = some rg → (fX11_takes_J22 rg = some out → ∀ (H : Heap) (locs : List Loc) (ls : Array Slot), va_P (xsD X) vwCl (wM X mThrown mWorld mImage mDraft mEarlier mRemembered mHasImage mIsLaid sg.2 mTwo mShare mX mY mD mEventX mEventY mEventD mEvents mCrossingOf mBundle mEventOf mDegree mFrom mTo mCrossings mEdges mMet mUpper mLower mTape mTaped mPoint mEnd mBegin mFaultAt mFive mTold mActs mFar mViews mHullX mHullY mEndX mEndY mHeightUp mHeightLow mMeets mMeetsOf Rw) H → va_D (xsF X) (wM X mThrown mWorld mImage mDraft mEarlier mRemembered mHasImage mIsLaid sg.2 mTwo mShare mX mY mD mEventX mEventY mEventD mEvents mCrossingOf mBundle mEventOf mDegree mFrom mTo mCrossings mEdges mMet mUpper mLower mTape mTaped mPoint mEnd mBegin mFaultAt mFive mTold mActs mFar mViews mHullX mHullY mEndX mEndY mHeightUp mHeightLow mMeets mMeetsOf Rw) → va_S (xsF X) s.heap H locs → lv_has ls 4 [(0, .ref (xsA X 100)), (1, .ref (xsA X 105)), (2, .int a1), (3, .int sg.1)] → W p l e { frames := 1, cells := 0, slots := 0, locals := 22 } s m ([.ref (xsA X 100), .ref (xsA X 105), .int a1] : List Value).toArray below meth c H locs 0 0 (MQ below Qq ([.ref (xsA X 100), .ref (xsA X 105), .int a1] : List Value).toArray s 0 0 (xsF X)) (F0 m 2 ls [])) := by
    refine xsWh_ind ?_
    intro sg r3 u3 hf ih3 hx3 hk3 H locs ls hP hD hS hl
    obtain ⟨y1, y2⟩ := sg
    replace hf : fX11_takes_L2 mWorld a1 y1 y2 = some u3 := hf
    replace hl : lv_has ls 4 [(0, .ref (xsA X 100)), (1, .ref (xsA X 105)), (2, .int a1), (3, .int y1)] := hl
    replace hP : va_P (xsD X) vwCl (wM X mThrown mWorld mImage mDraft mEarlier mRemembered mHasImage mIsLaid y2 mTwo mShare mX mY mD mEventX mEventY mEventD mEvents mCrossingOf mBundle mEventOf mDegree mFrom mTo mCrossings mEdges mMet mUpper mLower mTape mTaped mPoint mEnd mBegin mFaultAt mFive mTold mActs mFar mViews mHullX mHullY mEndX mEndY mHeightUp mHeightLow mMeets mMeetsOf Rw) H := hP
    replace hD : va_D (xsF X) (wM X mThrown mWorld mImage mDraft mEarlier mRemembered mHasImage mIsLaid y2 mTwo mShare mX mY mD mEventX mEventY mEventD mEvents mCrossingOf mBundle mEventOf mDegree mFrom mTo mCrossings mEdges mMet mUpper mLower mTape mTaped mPoint mEnd mBegin mFaultAt mFive mTold mActs mFar mViews mHullX mHullY mEndX mEndY mHeightUp mHeightLow mMeets mMeetsOf Rw) := hD
    unfold fX11_takes_L2 at hf
    refine lv_iload_n hx hb dX11_takes_2 rfl (lv_at hl 3 rfl) ?_
    refine lv_iconst (v := (4 : Int32)) hx hb dX11_takes_3 (by decide) ?_
    refine lv_icmp_ge (tgt := 22) hx hb dX11_takes_4 (by decide) (fun c10 => ?_) (fun c10 => ?_)
    · replace hf := xsBr_t c10 hf
      have ez := hx3 _ (Option.some.inj hf).symm
      subst ez
      exact K3 y2 hk3 H locs ls hP hD hS (lv_sub hl [] rfl)
    · replace hf := xsBr_f c10 hf
      refine lv_aload_n hx hb dX11_takes_7 rfl (lv_at hl 1 rfl) ?_
      refine lv_iload_n hx hb dX11_takes_8 rfl (lv_at hl 3 rfl) ?_
      refine lv_aload_n hx hb dX11_takes_9 rfl (lv_at hl 0 rfl) ?_
      refine lv_iload_n hx hb dX11_takes_10 rfl (lv_at hl 2 rfl) ?_
      refine lv_iload_n hx hb dX11_takes_11 rfl (lv_at hl 3 rfl) ?_
      replace hf := xsBd_use hf
      obtain ⟨o5, h6, hf⟩ := hf
      refine xs_calli hS (xs_runV (As := [.int a1, .int y1]) C (mX11_of l  h6) w_1608 w_1610 w_50 w_115 w_1611 hd_X11_of ⟨rfl, rfl, Nat.le_of_ble_eq_true rfl, Nat.le_of_ble_eq_true rfl, Nat.zero_le _, Nat.zero_le _⟩ hP hD hS lk_X11 rfl hl.1 rfl (Nat.le_of_ble_eq_true rfl) dX11_takes_12) (fun H locs hP hD hS => ?_)
      replace hf := xsCk_use hf
      obtain ⟨h7, hf⟩ := hf
      refine xs_mOne C hP hD hS h7 dX11_takes_15 (fun f8 ef8 H locs hP hD hS => ?_)
      replace hf := xsLt_use ef8 hf
      obtain ⟨x9, ex9⟩ : ∃ y : Int32, y = y1 + (1 : Int32) := ⟨_, rfl⟩
      replace hf := xsLt_use ex9 hf
      refine lv_iinc (v := x9) (lv' := [(3, .int x9), (0, .ref (xsA X 100)), (1, .ref (xsA X 105)), (2, .int a1)]) hx hb dX11_takes_16 hl (k := 3) rfl (by rw [ex9]; rfl) (by decide) rfl (fun ls hl => ?_)
      refine lv_goto (tgt := 2) hx hb dX11_takes_19 (by decide) ?_
      exact ih3 _ (Option.some.inj hf).symm hk3 H locs ls hP hD hS (lv_sub hl [1, 2, 3, 0] rfl)
  exact L3 ((0 : Int32), mOne) r3 hk30 hf H locs ls hP hD hS (lv_sub hl [1, 2, 3, 0] rfl)
set_option maxRecDepth 100000 in
set_option maxHeartbeats 8000000 in
theorem mX11_takes_v1 (l : Launch) {X : xsX} {mThrown mRemembered mHasImage mIsLaid mEvents mCrossings mEdges mTaped mPoint mEnd mBegin mFaultAt mActs : Int32} {mWorld mImage mDraft mEarlier mOne mTwo mShare mCrossingOf mBundle mEventOf mDegree mFrom mTo mMet mTape mFive mTold mFar mViews mHullX mHullY mEndX mEndY mMeets mMeetsOf : Nat → Int32} {mX mY mD mHeightUp mHeightLow : Int64} {mEventX mEventY mEventD mUpper mLower : Nat → Int64} {Rw : va_W} {a1 : Int32} {out : (Nat → Int32)} (hf : fX11_takes_v1 mWorld mTwo a1 = some out) : Met l yX11_takes (xsWs yX11_takes cX11_takes 4 none) { frames := 1, cells := 0, slots := 0, locals := 22 } (xsP X (wM X mThrown mWorld mImage mDraft mEarlier mRemembered mHasImage mIsLaid mOne mTwo mShare mX mY mD mEventX mEventY mEventD mEvents mCrossingOf mBundle mEventOf mDegree mFrom mTo mCrossings mEdges mMet mUpper mLower mTape mTaped mPoint mEnd mBegin mFaultAt mFive mTold mActs mFar mViews mHullX mHullY mEndX mEndY mHeightUp mHeightLow mMeets mMeetsOf Rw) [.ref (xsA X 100), .ref (xsA X 106), .int a1]) (xsQv X (wM X mThrown mWorld mImage mDraft mEarlier mRemembered mHasImage mIsLaid mOne out mShare mX mY mD mEventX mEventY mEventD mEvents mCrossingOf mBundle mEventOf mDegree mFrom mTo mCrossings mEdges mMet mUpper mLower mTape mTaped mPoint mEnd mBegin mFaultAt mFive mTold mActs mFar mViews mHullX mHullY mEndX mEndY mHeightUp mHeightLow mMeets mMeetsOf Rw)) 0 0 (xsF X) := by
  refine xs_meth RX11 (by decide) rfl (Nat.le_of_ble_eq_true rfl) ?_
  intro p e s m below meth c ls H locs C hP hD hS hr hlk hl
  have hx := C.1
  have hb := C.2.1
  have hl : lv_has ls 4 [(0, .ref (xsA X 100)), (1, .ref (xsA X 106)), (2, .int a1)] := hl
  obtain ⟨Qq, hQq⟩ : ∃ Qq, Qq = xsQv X (wM X mThrown mWorld mImage mDraft mEarlier mRemembered mHasImage mIsLaid mOne out mShare mX mY mD mEventX mEventY mEventD mEvents mCrossingOf mBundle mEventOf mDegree mFrom mTo mCrossings mEdges mMet mUpper mLower mTape mTaped mPoint mEnd mBegin mFaultAt mFive mTold mActs mFar mViews mHullX mHullY mEndX mEndY mHeightUp mHeightLow mMeets mMeetsOf Rw) := ⟨_, rfl⟩
  rw [← hQq]
  unfold fX11_takes_v1 at hf
  refine lv_iconst (v := (0 : Int32)) hx hb dX11_takes_0 (by decide) ?_
  refine lv_istore_n (lv' := [(3, .int (0 : Int32)), (0, .ref (xsA X 100)), (1, .ref (xsA X 106)), (2, .int a1)]) hx hb dX11_takes_1 rfl hl (by decide) rfl (fun ls hl => ?_)
  have K3 : ∀ (y4 : Nat → Int32) (hf : fX11_takes_v1_J22 y4 = some out) (H : Heap) (locs : List Loc) (ls : Array Slot), va_P (xsD X) vwCl (wM X mThrown mWorld mImage mDraft mEarlier mRemembered mHasImage mIsLaid mOne y4 mShare mX mY mD mEventX mEventY mEventD mEvents mCrossingOf mBundle mEventOf mDegree mFrom mTo mCrossings mEdges mMet mUpper mLower mTape mTaped mPoint mEnd mBegin mFaultAt mFive mTold mActs mFar mViews mHullX mHullY mEndX mEndY mHeightUp mHeightLow mMeets mMeetsOf Rw) H → va_D (xsF X) (wM X mThrown mWorld mImage mDraft mEarlier mRemembered mHasImage mIsLaid mOne y4 mShare mX mY mD mEventX mEventY mEventD mEvents mCrossingOf mBundle mEventOf mDegree mFrom mTo mCrossings mEdges mMet mUpper mLower mTape mTaped mPoint mEnd mBegin mFaultAt mFive mTold mActs mFar mViews mHullX mHullY mEndX mEndY mHeightUp mHeightLow mMeets mMeetsOf Rw) → va_S (xsF X) s.heap H locs → lv_has ls 4 [] → W p l e { frames := 1, cells := 0, slots := 0, locals := 22 } s m ([.ref (xsA X 100), .ref (xsA X 106), .int a1] : List Value).toArray below meth c H locs 0 0 (MQ below Qq ([.ref (xsA X 100), .ref (xsA X 106), .int a1] : List Value).toArray s 0 0 (xsF X)) (F0 m 22 ls []) := by
    intro y4 hf H locs ls hP hD hS hl
    unfold fX11_takes_v1_J22 at hf
    have ho := Option.some.inj hf
    subst ho
    rw [hQq]
    exact xs_vret C hr hlk hP hD hS dX11_takes_22
  replace hf := xsBd_use hf
  obtain ⟨r3, hk30, hf⟩ := hf
  have L3 : ∀ (sg : Int32 × (Nat → Int32)) (rg : (Nat → Int32)), xsWh (fun s3 => fX11_takes_v1_L2 mWorld a1 s3.1 s3.2) sg = some rg → (fX11_takes_v1_J22 rg = some out → ∀ (H : Heap) (locs : List Loc) (ls : Array Slot), va_P (xsD X) vwCl (wM X mThrown mWorld mImage mDraft mEarlier mRemembered mHasImage mIsLaid mOne sg.2 mShare mX mY mD mEventX mEventY mEventD mEvents mCrossingOf mBundle mEventOf mDegree mFrom mTo mCrossings mEdges mMet mUpper mLower mTape mTaped mPoint mEnd mBegin mFaultAt mFive mTold mActs mFar mViews mHullX mHullY mEndX mEndY mHeightUp mHeightLow mMeets mMeetsOf Rw) H → va_D (xsF X) (wM X mThrown mWorld mImage mDraft mEarlier mRemembered mHasImage mIsLaid mOne sg.2 mShare mX mY mD mEventX mEventY mEventD mEvents mCrossingOf mBundle mEventOf mDegree mFrom mTo mCrossings mEdges mMet mUpper mLower mTape mTaped mPoint mEnd mBegin mFaultAt mFive mTold mActs mFar mViews mHullX mHullY mEndX mEndY mHeightUp mHeightLow mMeets mMeetsOf Rw) → va_S (xsF X) s.heap H locs → lv_has ls 4 [(0, .ref (xsA X 100)), (1, .ref (xsA X 106)), (2, .int a1), (3, .int sg.1)] → W p l e { frames := 1, cells := 0, slots := 0, locals := 22 } s m ([.ref (xsA X 100), .ref (xsA X 106), .int a1] : List Value).toArray below meth c H locs 0 0 (MQ below Qq ([.ref (xsA X 100), .ref (xsA X 106), .int a1] : List Value).toArray s 0 0 (xsF X)) (F0 m 2 ls [])) := by
    refine xsWh_ind ?_
    intro sg r3 u3 hf ih3 hx3 hk3 H locs ls hP hD hS hl
    obtain ⟨y1, y2⟩ := sg
    replace hf : fX11_takes_v1_L2 mWorld a1 y1 y2 = some u3 := hf
    replace hl : lv_has ls 4 [(0, .ref (xsA X 100)), (1, .ref (xsA X 106)), (2, .int a1), (3, .int y1)] := hl
    replace hP : va_P (xsD X) vwCl (wM X mThrown mWorld mImage mDraft mEarlier mRemembered mHasImage mIsLaid mOne y2 mShare mX mY mD mEventX mEventY mEventD mEvents mCrossingOf mBundle mEventOf mDegree mFrom mTo mCrossings mEdges mMet mUpper mLower mTape mTaped mPoint mEnd mBegin mFaultAt mFive mTold mActs mFar mViews mHullX mHullY mEndX mEndY mHeightUp mHeightLow mMeets mMeetsOf Rw) H := hP
    replace hD : va_D (xsF X) (wM X mThrown mWorld mImage mDraft mEarlier mRemembered mHasImage mIsLaid mOne y2 mShare mX mY mD mEventX mEventY mEventD mEvents mCrossingOf mBundle mEventOf mDegree mFrom mTo mCrossings mEdges mMet mUpper mLower mTape mTaped mPoint mEnd mBegin mFaultAt mFive mTold mActs mFar mViews mHullX mHullY mEndX mEndY mHeightUp mHeightLow mMeets mMeetsOf Rw) := hD
    unfold fX11_takes_v1_L2 at hf
    refine lv_iload_n hx hb dX11_takes_2 rfl (lv_at hl 3 rfl) ?_
    refine lv_iconst (v := (4 : Int32)) hx hb dX11_takes_3 (by decide) ?_
    refine lv_icmp_ge (tgt := 22) hx hb dX11_takes_4 (by decide) (fun c10 => ?_) (fun c10 => ?_)
    · replace hf := xsBr_t c10 hf
      have ez := hx3 _ (Option.some.inj hf).symm
      subst ez
      exact K3 y2 hk3 H locs ls hP hD hS (lv_sub hl [] rfl)
    · replace hf := xsBr_f c10 hf
      refine lv_aload_n hx hb dX11_takes_7 rfl (lv_at hl 1 rfl) ?_
      refine lv_iload_n hx hb dX11_takes_8 rfl (lv_at hl 3 rfl) ?_
      refine lv_aload_n hx hb dX11_takes_9 rfl (lv_at hl 0 rfl) ?_
      refine lv_iload_n hx hb dX11_takes_10 rfl (lv_at hl 2 rfl) ?_
      refine lv_iload_n hx hb dX11_takes_11 rfl (lv_at hl 3 rfl) ?_
      replace hf := xsBd_use hf
      obtain ⟨o5, h6, hf⟩ := hf
      refine xs_calli hS (xs_runV (As := [.int a1, .int y1]) C (mX11_of l  h6) w_1608 w_1610 w_50 w_115 w_1611 hd_X11_of ⟨rfl, rfl, Nat.le_of_ble_eq_true rfl, Nat.le_of_ble_eq_true rfl, Nat.zero_le _, Nat.zero_le _⟩ hP hD hS lk_X11 rfl hl.1 rfl (Nat.le_of_ble_eq_true rfl) dX11_takes_12) (fun H locs hP hD hS => ?_)
      replace hf := xsCk_use hf
      obtain ⟨h7, hf⟩ := hf
      refine xs_mTwo C hP hD hS h7 dX11_takes_15 (fun f8 ef8 H locs hP hD hS => ?_)
      replace hf := xsLt_use ef8 hf
      obtain ⟨x9, ex9⟩ : ∃ y : Int32, y = y1 + (1 : Int32) := ⟨_, rfl⟩
      replace hf := xsLt_use ex9 hf
      refine lv_iinc (v := x9) (lv' := [(3, .int x9), (0, .ref (xsA X 100)), (1, .ref (xsA X 106)), (2, .int a1)]) hx hb dX11_takes_16 hl (k := 3) rfl (by rw [ex9]; rfl) (by decide) rfl (fun ls hl => ?_)
      refine lv_goto (tgt := 2) hx hb dX11_takes_19 (by decide) ?_
      exact ih3 _ (Option.some.inj hf).symm hk3 H locs ls hP hD hS (lv_sub hl [1, 2, 3, 0] rfl)
  exact L3 ((0 : Int32), mTwo) r3 hk30 hf H locs ls hP hD hS (lv_sub hl [1, 2, 3, 0] rfl)
set_option maxRecDepth 100000 in
set_option maxHeartbeats 8000000 in
theorem mX11_sharesOf (l : Launch) {X : xsX} {mThrown mRemembered mHasImage mIsLaid mEvents mCrossings mEdges mTaped mPoint mEnd mBegin mFaultAt mActs : Int32} {mWorld mImage mDraft mEarlier mOne mTwo mShare mCrossingOf mBundle mEventOf mDegree mFrom mTo mMet mTape mFive mTold mFar mViews mHullX mHullY mEndX mEndY mMeets mMeetsOf : Nat → Int32} {mX mY mD mHeightUp mHeightLow : Int64} {mEventX mEventY mEventD mUpper mLower : Nat → Int64} {Rw : va_W} {a0 : Int32} {a1 : Int32} {out : Int32 × (Nat → Int32) × (Nat → Int32) × (Nat → Int32) × Int64 × Int64 × Int64} (hf : fX11_sharesOf mWorld mOne mTwo mShare mX mY mD a0 a1 = some out) : Met l yX11_sharesOf (xsWs yX11_sharesOf cX11_sharesOf 3 (some .int)) { frames := 4, cells := 0, slots := 0, locals := 119 } (xsP X (wM X mThrown mWorld mImage mDraft mEarlier mRemembered mHasImage mIsLaid mOne mTwo mShare mX mY mD mEventX mEventY mEventD mEvents mCrossingOf mBundle mEventOf mDegree mFrom mTo mCrossings mEdges mMet mUpper mLower mTape mTaped mPoint mEnd mBegin mFaultAt mFive mTold mActs mFar mViews mHullX mHullY mEndX mEndY mHeightUp mHeightLow mMeets mMeetsOf Rw) [.ref (xsA X 100), .int a0, .int a1]) (xsQi X out.1 (wM X mThrown mWorld mImage mDraft mEarlier mRemembered mHasImage mIsLaid out.2.1 out.2.2.1 out.2.2.2.1 out.2.2.2.2.1 out.2.2.2.2.2.1 out.2.2.2.2.2.2 mEventX mEventY mEventD mEvents mCrossingOf mBundle mEventOf mDegree mFrom mTo mCrossings mEdges mMet mUpper mLower mTape mTaped mPoint mEnd mBegin mFaultAt mFive mTold mActs mFar mViews mHullX mHullY mEndX mEndY mHeightUp mHeightLow mMeets mMeetsOf Rw)) 0 0 (xsF X) := by
  refine xs_meth RX11 (by decide) rfl (Nat.le_of_ble_eq_true rfl) ?_
  intro p e s m below meth c ls H locs C hP hD hS hr hlk hl
  have hx := C.1
  have hb := C.2.1
  have hl : lv_has ls 3 [(0, .ref (xsA X 100)), (1, .int a0), (2, .int a1)] := hl
  obtain ⟨Qq, hQq⟩ : ∃ Qq, Qq = xsQi X out.1 (wM X mThrown mWorld mImage mDraft mEarlier mRemembered mHasImage mIsLaid out.2.1 out.2.2.1 out.2.2.2.1 out.2.2.2.2.1 out.2.2.2.2.2.1 out.2.2.2.2.2.2 mEventX mEventY mEventD mEvents mCrossingOf mBundle mEventOf mDegree mFrom mTo mCrossings mEdges mMet mUpper mLower mTape mTaped mPoint mEnd mBegin mFaultAt mFive mTold mActs mFar mViews mHullX mHullY mEndX mEndY mHeightUp mHeightLow mMeets mMeetsOf Rw) := ⟨_, rfl⟩
  rw [← hQq]
  unfold fX11_sharesOf at hf
  refine lv_aload_n hx hb dX11_sharesOf_0 rfl (lv_at hl 0 rfl) ?_
  refine lv_aload_n hx hb dX11_sharesOf_1 rfl (lv_at hl 0 rfl) ?_
  refine xg_X11_26 C hP dX11_sharesOf_2 ?_
  refine lv_iload_n hx hb dX11_sharesOf_5 rfl (lv_at hl 1 rfl) ?_
  replace hf := xsBd_use hf
  obtain ⟨o1, h2, hf⟩ := hf
  refine xs_callv hS (xs_runV (As := [.ref (xsA X 105), .int a0]) C (mX11_takes l  h2) w_1661 w_1663 w_59 w_115 w_1664 hd_X11_takes ⟨rfl, rfl, Nat.le_of_ble_eq_true rfl, Nat.le_of_ble_eq_true rfl, Nat.zero_le _, Nat.zero_le _⟩ hP hD hS lk_X11 rfl hl.1 rfl (Nat.le_of_ble_eq_true rfl) dX11_sharesOf_6) (fun H locs hP hD hS => ?_)
  refine lv_aload_n hx hb dX11_sharesOf_9 rfl (lv_at hl 0 rfl) ?_
  refine lv_aload_n hx hb dX11_sharesOf_10 rfl (lv_at hl 0 rfl) ?_
  refine xg_X11_29 C hP dX11_sharesOf_11 ?_
  refine lv_iload_n hx hb dX11_sharesOf_14 rfl (lv_at hl 2 rfl) ?_
  replace hf := xsBd_use hf
  obtain ⟨o3, h4, hf⟩ := hf
  refine xs_callv hS (xs_runV (As := [.ref (xsA X 106), .int a1]) C (mX11_takes_v1 l  h4) w_1661 w_1663 w_59 w_115 w_1664 hd_X11_takes ⟨rfl, rfl, Nat.le_of_ble_eq_true rfl, Nat.le_of_ble_eq_true rfl, Nat.zero_le _, Nat.zero_le _⟩ hP hD hS lk_X11 rfl hl.1 rfl (Nat.le_of_ble_eq_true rfl) dX11_sharesOf_15) (fun H locs hP hD hS => ?_)
  refine lv_aload_n hx hb dX11_sharesOf_18 rfl (lv_at hl 0 rfl) ?_
  replace hf := xsBd_use hf
  obtain ⟨o5, h6, hf⟩ := hf
  refine xs_calli hS (xs_runV (As := []) C (mX11_shares l  h6) w_1665 w_1667 w_60 w_115 w_1668 hd_X11_shares ⟨rfl, rfl, Nat.le_of_ble_eq_true rfl, Nat.le_of_ble_eq_true rfl, Nat.zero_le _, Nat.zero_le _⟩ hP hD hS lk_X11 rfl hl.1 rfl (Nat.le_of_ble_eq_true rfl) dX11_sharesOf_19) (fun H locs hP hD hS => ?_)
  have ho := Option.some.inj hf
  subst ho
  rw [hQq]
  exact xs_iret C hr hlk hP hD hS dX11_sharesOf_22
set_option maxRecDepth 100000 in
set_option maxHeartbeats 8000000 in
theorem mX11_isEndOf (l : Launch) {X : xsX} {mThrown mRemembered mHasImage mIsLaid mEvents mCrossings mEdges mTaped mPoint mEnd mBegin mFaultAt mActs : Int32} {mWorld mImage mDraft mEarlier mOne mTwo mShare mCrossingOf mBundle mEventOf mDegree mFrom mTo mMet mTape mFive mTold mFar mViews mHullX mHullY mEndX mEndY mMeets mMeetsOf : Nat → Int32} {mX mY mD mHeightUp mHeightLow : Int64} {mEventX mEventY mEventD mUpper mLower : Nat → Int64} {Rw : va_W} {a0 : Int32} {a1 : Int64} {a2 : Int64} {a3 : Int64} {out : Int32} (hf : fX11_isEndOf mWorld a0 a1 a2 a3 = some out) : Met l yX11_isEndOf (xsWs yX11_isEndOf cX11_isEndOf 8 (some .boolean)) { frames := 1, cells := 0, slots := 0, locals := 22 } (xsP X (wM X mThrown mWorld mImage mDraft mEarlier mRemembered mHasImage mIsLaid mOne mTwo mShare mX mY mD mEventX mEventY mEventD mEvents mCrossingOf mBundle mEventOf mDegree mFrom mTo mCrossings mEdges mMet mUpper mLower mTape mTaped mPoint mEnd mBegin mFaultAt mFive mTold mActs mFar mViews mHullX mHullY mEndX mEndY mHeightUp mHeightLow mMeets mMeetsOf Rw) [.ref (xsA X 100), .int a0, .long a1, .long a2, .long a3]) (xsQi X out (wM X mThrown mWorld mImage mDraft mEarlier mRemembered mHasImage mIsLaid mOne mTwo mShare mX mY mD mEventX mEventY mEventD mEvents mCrossingOf mBundle mEventOf mDegree mFrom mTo mCrossings mEdges mMet mUpper mLower mTape mTaped mPoint mEnd mBegin mFaultAt mFive mTold mActs mFar mViews mHullX mHullY mEndX mEndY mHeightUp mHeightLow mMeets mMeetsOf Rw)) 0 0 (xsF X) := by
  refine xs_meth RX11 (by decide) rfl (Nat.le_of_ble_eq_true rfl) ?_
  intro p e s m below meth c ls H locs C hP hD hS hr hlk hl
  have hx := C.1
  have hb := C.2.1
  have hl : lv_has ls 8 [(0, .ref (xsA X 100)), (1, .int a0), (2, .long a1), (4, .long a2), (6, .long a3)] := hl
  obtain ⟨Qq, hQq⟩ : ∃ Qq, Qq = xsQi X out (wM X mThrown mWorld mImage mDraft mEarlier mRemembered mHasImage mIsLaid mOne mTwo mShare mX mY mD mEventX mEventY mEventD mEvents mCrossingOf mBundle mEventOf mDegree mFrom mTo mCrossings mEdges mMet mUpper mLower mTape mTaped mPoint mEnd mBegin mFaultAt mFive mTold mActs mFar mViews mHullX mHullY mEndX mEndY mHeightUp mHeightLow mMeets mMeetsOf Rw) := ⟨_, rfl⟩
  rw [← hQq]
  unfold fX11_isEndOf at hf
  refine lv_lload_n hx hb dX11_isEndOf_0 rfl (lv_at hl 2 rfl) ?_
  refine lv_aload_n hx hb dX11_isEndOf_1 rfl (lv_at hl 0 rfl) ?_
  refine lv_iload_n hx hb dX11_isEndOf_2 rfl (lv_at hl 1 rfl) ?_
  refine lv_iconst (v := (0 : Int32)) hx hb dX11_isEndOf_3 (by decide) ?_
  replace hf := xsBd_use hf
  obtain ⟨o1, h2, hf⟩ := hf
  refine xs_calli hS (xs_runV (As := [.int a0, .int (0 : Int32)]) C (mX11_of l  h2) w_1608 w_1610 w_50 w_115 w_1611 hd_X11_of ⟨rfl, rfl, Nat.le_of_ble_eq_true rfl, Nat.le_of_ble_eq_true rfl, Nat.zero_le _, Nat.zero_le _⟩ hP hD hS lk_X11 rfl hl.1 rfl (Nat.le_of_ble_eq_true rfl) dX11_isEndOf_4) (fun H locs hP hD hS => ?_)
  refine lv_i2l hx hb dX11_isEndOf_7 rfl ?_
  refine lv_lload hx hb dX11_isEndOf_8 (lv_at hl 4 rfl) ?_
  refine lv_lmul hx hb dX11_isEndOf_10 ?_
  have K9 : ∀ (hf : fX11_isEndOf_J31 mWorld a0 a1 a2 a3 = some out) (H : Heap) (locs : List Loc) (ls : Array Slot), va_P (xsD X) vwCl (wM X mThrown mWorld mImage mDraft mEarlier mRemembered mHasImage mIsLaid mOne mTwo mShare mX mY mD mEventX mEventY mEventD mEvents mCrossingOf mBundle mEventOf mDegree mFrom mTo mCrossings mEdges mMet mUpper mLower mTape mTaped mPoint mEnd mBegin mFaultAt mFive mTold mActs mFar mViews mHullX mHullY mEndX mEndY mHeightUp mHeightLow mMeets mMeetsOf Rw) H → va_D (xsF X) (wM X mThrown mWorld mImage mDraft mEarlier mRemembered mHasImage mIsLaid mOne mTwo mShare mX mY mD mEventX mEventY mEventD mEvents mCrossingOf mBundle mEventOf mDegree mFrom mTo mCrossings mEdges mMet mUpper mLower mTape mTaped mPoint mEnd mBegin mFaultAt mFive mTold mActs mFar mViews mHullX mHullY mEndX mEndY mHeightUp mHeightLow mMeets mMeetsOf Rw) → va_S (xsF X) s.heap H locs → lv_has ls 8 [(0, .ref (xsA X 100)), (1, .int a0), (2, .long a1), (4, .long a2), (6, .long a3)] → W p l e { frames := 1, cells := 0, slots := 0, locals := 22 } s m ([.ref (xsA X 100), .int a0, .long a1, .long a2, .long a3] : List Value).toArray below meth c H locs 0 0 (MQ below Qq ([.ref (xsA X 100), .int a0, .long a1, .long a2, .long a3] : List Value).toArray s 0 0 (xsF X)) (F0 m 31 ls []) := by
    intro hf H locs ls hP hD hS hl
    unfold fX11_isEndOf_J31 at hf
    refine lv_lload_n hx hb dX11_isEndOf_31 rfl (lv_at hl 2 rfl) ?_
    refine lv_aload_n hx hb dX11_isEndOf_32 rfl (lv_at hl 0 rfl) ?_
    refine lv_iload_n hx hb dX11_isEndOf_33 rfl (lv_at hl 1 rfl) ?_
    refine lv_iconst (v := (2 : Int32)) hx hb dX11_isEndOf_34 (by decide) ?_
    replace hf := xsBd_use hf
    obtain ⟨o3, h4, hf⟩ := hf
    refine xs_calli hS (xs_runV (As := [.int a0, .int (2 : Int32)]) C (mX11_of l  h4) w_1608 w_1610 w_50 w_115 w_1611 hd_X11_of ⟨rfl, rfl, Nat.le_of_ble_eq_true rfl, Nat.le_of_ble_eq_true rfl, Nat.zero_le _, Nat.zero_le _⟩ hP hD hS lk_X11 rfl hl.1 rfl (Nat.le_of_ble_eq_true rfl) dX11_isEndOf_35) (fun H locs hP hD hS => ?_)
    refine lv_i2l hx hb dX11_isEndOf_38 rfl ?_
    refine lv_lload hx hb dX11_isEndOf_39 (lv_at hl 4 rfl) ?_
    refine lv_lmul hx hb dX11_isEndOf_41 ?_
    refine xs_lcmp_ne (tgt := 66) C dX11_isEndOf_42 dX11_isEndOf_43 (by decide) (fun c8 => ?_) (fun c8 => ?_)
    · replace hf := xsBr_f c8 hf
      refine lv_iconst (v := (0 : Int32)) hx hb dX11_isEndOf_66 (by decide) ?_
      have ho := Option.some.inj hf
      subst ho
      rw [hQq]
      exact xs_zret C hr hlk xsB_0 hP hD hS dX11_isEndOf_67
    · replace hf := xsBr_t c8 hf
      refine lv_lload hx hb dX11_isEndOf_46 (lv_at hl 3 rfl) ?_
      refine lv_aload_n hx hb dX11_isEndOf_48 rfl (lv_at hl 0 rfl) ?_
      refine lv_iload_n hx hb dX11_isEndOf_49 rfl (lv_at hl 1 rfl) ?_
      refine lv_iconst (v := (3 : Int32)) hx hb dX11_isEndOf_50 (by decide) ?_
      replace hf := xsBd_use hf
      obtain ⟨o5, h6, hf⟩ := hf
      refine xs_calli hS (xs_runV (As := [.int a0, .int (3 : Int32)]) C (mX11_of l  h6) w_1608 w_1610 w_50 w_115 w_1611 hd_X11_of ⟨rfl, rfl, Nat.le_of_ble_eq_true rfl, Nat.le_of_ble_eq_true rfl, Nat.zero_le _, Nat.zero_le _⟩ hP hD hS lk_X11 rfl hl.1 rfl (Nat.le_of_ble_eq_true rfl) dX11_isEndOf_51) (fun H locs hP hD hS => ?_)
      refine lv_i2l hx hb dX11_isEndOf_54 rfl ?_
      refine lv_lload hx hb dX11_isEndOf_55 (lv_at hl 4 rfl) ?_
      refine lv_lmul hx hb dX11_isEndOf_57 ?_
      refine xs_lcmp_ne (tgt := 66) C dX11_isEndOf_58 dX11_isEndOf_59 (by decide) (fun c7 => ?_) (fun c7 => ?_)
      · replace hf := xsBr_f c7 hf
        refine lv_iconst (v := (0 : Int32)) hx hb dX11_isEndOf_66 (by decide) ?_
        have ho := Option.some.inj hf
        subst ho
        rw [hQq]
        exact xs_zret C hr hlk xsB_0 hP hD hS dX11_isEndOf_67
      · replace hf := xsBr_t c7 hf
        refine lv_iconst (v := (1 : Int32)) hx hb dX11_isEndOf_62 (by decide) ?_
        refine lv_goto (tgt := 67) hx hb dX11_isEndOf_63 (by decide) ?_
        have ho := Option.some.inj hf
        subst ho
        rw [hQq]
        exact xs_zret C hr hlk xsB_1 hP hD hS dX11_isEndOf_67
  refine xs_lcmp_ne (tgt := 31) C dX11_isEndOf_11 dX11_isEndOf_12 (by decide) (fun c13 => ?_) (fun c13 => ?_)
  · replace hf := xsBr_f c13 hf
    exact K9 hf H locs ls hP hD hS (lv_sub hl [0, 1, 2, 3, 4] rfl)
  · replace hf := xsBr_t c13 hf
    refine lv_lload hx hb dX11_isEndOf_15 (lv_at hl 3 rfl) ?_
    refine lv_aload_n hx hb dX11_isEndOf_17 rfl (lv_at hl 0 rfl) ?_
    refine lv_iload_n hx hb dX11_isEndOf_18 rfl (lv_at hl 1 rfl) ?_
    refine lv_iconst (v := (1 : Int32)) hx hb dX11_isEndOf_19 (by decide) ?_
    replace hf := xsBd_use hf
    obtain ⟨o10, h11, hf⟩ := hf
    refine xs_calli hS (xs_runV (As := [.int a0, .int (1 : Int32)]) C (mX11_of l  h11) w_1608 w_1610 w_50 w_115 w_1611 hd_X11_of ⟨rfl, rfl, Nat.le_of_ble_eq_true rfl, Nat.le_of_ble_eq_true rfl, Nat.zero_le _, Nat.zero_le _⟩ hP hD hS lk_X11 rfl hl.1 rfl (Nat.le_of_ble_eq_true rfl) dX11_isEndOf_20) (fun H locs hP hD hS => ?_)
    refine lv_i2l hx hb dX11_isEndOf_23 rfl ?_
    refine lv_lload hx hb dX11_isEndOf_24 (lv_at hl 4 rfl) ?_
    refine lv_lmul hx hb dX11_isEndOf_26 ?_
    refine xs_lcmp_eq (tgt := 62) C dX11_isEndOf_27 dX11_isEndOf_28 (by decide) (fun c12 => ?_) (fun c12 => ?_)
    · replace hf := xsBr_t c12 hf
      refine lv_iconst (v := (1 : Int32)) hx hb dX11_isEndOf_62 (by decide) ?_
      refine lv_goto (tgt := 67) hx hb dX11_isEndOf_63 (by decide) ?_
      have ho := Option.some.inj hf
      subst ho
      rw [hQq]
      exact xs_zret C hr hlk xsB_1 hP hD hS dX11_isEndOf_67
    · replace hf := xsBr_f c12 hf
      exact K9 hf H locs ls hP hD hS (lv_sub hl [0, 1, 2, 3, 4] rfl)
set_option maxRecDepth 100000 in
set_option maxHeartbeats 8000000 in
theorem mX11_howOf (l : Launch) {X : xsX} {mThrown mRemembered mHasImage mIsLaid mEvents mCrossings mEdges mTaped mPoint mEnd mBegin mFaultAt mActs : Int32} {mWorld mImage mDraft mEarlier mOne mTwo mShare mCrossingOf mBundle mEventOf mDegree mFrom mTo mMet mTape mFive mTold mFar mViews mHullX mHullY mEndX mEndY mMeets mMeetsOf : Nat → Int32} {mX mY mD mHeightUp mHeightLow : Int64} {mEventX mEventY mEventD mUpper mLower : Nat → Int64} {Rw : va_W} {a0 : Int32} {a1 : Int32} {out : Int32 × (Nat → Int32) × (Nat → Int32) × (Nat → Int32) × Int64 × Int64 × Int64} (hf : fX11_howOf mWorld mOne mTwo mShare mX mY mD a0 a1 = some out) : Met l yX11_howOf (xsWs yX11_howOf cX11_howOf 5 (some .int)) { frames := 5, cells := 0, slots := 0, locals := 141 } (xsP X (wM X mThrown mWorld mImage mDraft mEarlier mRemembered mHasImage mIsLaid mOne mTwo mShare mX mY mD mEventX mEventY mEventD mEvents mCrossingOf mBundle mEventOf mDegree mFrom mTo mCrossings mEdges mMet mUpper mLower mTape mTaped mPoint mEnd mBegin mFaultAt mFive mTold mActs mFar mViews mHullX mHullY mEndX mEndY mHeightUp mHeightLow mMeets mMeetsOf Rw) [.ref (xsA X 100), .int a0, .int a1]) (xsQi X out.1 (wM X mThrown mWorld mImage mDraft mEarlier mRemembered mHasImage mIsLaid out.2.1 out.2.2.1 out.2.2.2.1 out.2.2.2.2.1 out.2.2.2.2.2.1 out.2.2.2.2.2.2 mEventX mEventY mEventD mEvents mCrossingOf mBundle mEventOf mDegree mFrom mTo mCrossings mEdges mMet mUpper mLower mTape mTaped mPoint mEnd mBegin mFaultAt mFive mTold mActs mFar mViews mHullX mHullY mEndX mEndY mHeightUp mHeightLow mMeets mMeetsOf Rw)) 0 0 (xsF X) := by
  refine xs_meth RX11 (by decide) rfl (Nat.le_of_ble_eq_true rfl) ?_
  intro p e s m below meth c ls H locs C hP hD hS hr hlk hl
  have hx := C.1
  have hb := C.2.1
  have hl : lv_has ls 5 [(0, .ref (xsA X 100)), (1, .int a0), (2, .int a1)] := hl
  obtain ⟨Qq, hQq⟩ : ∃ Qq, Qq = xsQi X out.1 (wM X mThrown mWorld mImage mDraft mEarlier mRemembered mHasImage mIsLaid out.2.1 out.2.2.1 out.2.2.2.1 out.2.2.2.2.1 out.2.2.2.2.2.1 out.2.2.2.2.2.2 mEventX mEventY mEventD mEvents mCrossingOf mBundle mEventOf mDegree mFrom mTo mCrossings mEdges mMet mUpper mLower mTape mTaped mPoint mEnd mBegin mFaultAt mFive mTold mActs mFar mViews mHullX mHullY mEndX mEndY mHeightUp mHeightLow mMeets mMeetsOf Rw) := ⟨_, rfl⟩
  rw [← hQq]
  unfold fX11_howOf at hf
  refine lv_iconst (v := (1 : Int32)) hx hb dX11_howOf_0 (by decide) ?_
  refine lv_istore_n (lv' := [(3, .int (1 : Int32)), (0, .ref (xsA X 100)), (1, .int a0), (2, .int a1)]) hx hb dX11_howOf_1 rfl hl (by decide) rfl (fun ls hl => ?_)
  refine lv_iconst (v := (0 : Int32)) hx hb dX11_howOf_2 (by decide) ?_
  refine lv_istore (lv' := [(4, .int (0 : Int32)), (3, .int (1 : Int32)), (0, .ref (xsA X 100)), (1, .int a0), (2, .int a1)]) hx hb dX11_howOf_3 hl (by decide) rfl (fun ls hl => ?_)
  have K3 : ∀ (y4 : Int32) (hf : fX11_howOf_J44 mWorld mOne mTwo mShare mX mY mD a0 a1 y4 = some out) (H : Heap) (locs : List Loc) (ls : Array Slot), va_P (xsD X) vwCl (wM X mThrown mWorld mImage mDraft mEarlier mRemembered mHasImage mIsLaid mOne mTwo mShare mX mY mD mEventX mEventY mEventD mEvents mCrossingOf mBundle mEventOf mDegree mFrom mTo mCrossings mEdges mMet mUpper mLower mTape mTaped mPoint mEnd mBegin mFaultAt mFive mTold mActs mFar mViews mHullX mHullY mEndX mEndY mHeightUp mHeightLow mMeets mMeetsOf Rw) H → va_D (xsF X) (wM X mThrown mWorld mImage mDraft mEarlier mRemembered mHasImage mIsLaid mOne mTwo mShare mX mY mD mEventX mEventY mEventD mEvents mCrossingOf mBundle mEventOf mDegree mFrom mTo mCrossings mEdges mMet mUpper mLower mTape mTaped mPoint mEnd mBegin mFaultAt mFive mTold mActs mFar mViews mHullX mHullY mEndX mEndY mHeightUp mHeightLow mMeets mMeetsOf Rw) → va_S (xsF X) s.heap H locs → lv_has ls 5 [(0, .ref (xsA X 100)), (1, .int a0), (2, .int a1), (3, .int y4)] → W p l e { frames := 5, cells := 0, slots := 0, locals := 141 } s m ([.ref (xsA X 100), .int a0, .int a1] : List Value).toArray below meth c H locs 0 0 (MQ below Qq ([.ref (xsA X 100), .int a0, .int a1] : List Value).toArray s 0 0 (xsF X)) (F0 m 44 ls []) := by
    intro y4 hf H locs ls hP hD hS hl
    unfold fX11_howOf_J44 at hf
    refine lv_aload_n hx hb dX11_howOf_44 rfl (lv_at hl 0 rfl) ?_
    refine lv_iload_n hx hb dX11_howOf_45 rfl (lv_at hl 1 rfl) ?_
    refine lv_iload_n hx hb dX11_howOf_46 rfl (lv_at hl 2 rfl) ?_
    replace hf := xsBd_use hf
    obtain ⟨o5, h6, hf⟩ := hf
    refine xs_calli hS (xs_runV (As := [.int a0, .int a1]) C (mX11_sharesOf l  h6) w_1657 w_1659 w_58 w_115 w_1660 hd_X11_sharesOf ⟨rfl, rfl, Nat.le_of_ble_eq_true rfl, Nat.le_of_ble_eq_true rfl, Nat.zero_le _, Nat.zero_le _⟩ hP hD hS lk_X11 rfl hl.1 rfl (Nat.le_of_ble_eq_true rfl) dX11_howOf_47) (fun H locs hP hD hS => ?_)
    refine lv_istore (lv' := [(4, .int o5.1), (0, .ref (xsA X 100)), (1, .int a0), (2, .int a1), (3, .int y4)]) hx hb dX11_howOf_50 hl (by decide) rfl (fun ls hl => ?_)
    refine lv_iload_n hx hb dX11_howOf_52 rfl (lv_at hl 4 rfl) ?_
    refine lv_if_eq (tgt := 58) hx hb dX11_howOf_53 (by decide) (fun c15 => ?_) (fun c15 => ?_)
    · replace hf := xsBr_t c15 hf
      refine lv_iload hx hb dX11_howOf_58 (lv_at hl 0 rfl) ?_
      refine lv_iconst (v := (1 : Int32)) hx hb dX11_howOf_60 (by decide) ?_
      refine lv_icmp_eq (tgt := 76) hx hb dX11_howOf_61 (by decide) (fun c14 => ?_) (fun c14 => ?_)
      · replace hf := xsBr_t c14 hf
        refine lv_aload_n hx hb dX11_howOf_76 rfl (lv_at hl 1 rfl) ?_
        refine lv_iload_n hx hb dX11_howOf_77 rfl (lv_at hl 2 rfl) ?_
        refine lv_aload_n hx hb dX11_howOf_78 rfl (lv_at hl 1 rfl) ?_
        refine xg_X11_147 C hP dX11_howOf_79 ?_
        refine lv_aload_n hx hb dX11_howOf_82 rfl (lv_at hl 1 rfl) ?_
        refine xg_X11_151 C hP dX11_howOf_83 ?_
        refine lv_aload_n hx hb dX11_howOf_86 rfl (lv_at hl 1 rfl) ?_
        refine xg_X11_154 C hP dX11_howOf_87 ?_
        replace hf := xsBd_use hf
        obtain ⟨o7, h8, hf⟩ := hf
        refine xs_calli hS (xs_runV (As := [.int a0, .long o5.2.2.2.2.1, .long o5.2.2.2.2.2.1, .long o5.2.2.2.2.2.2]) C (mX11_isEndOf l  h8) w_1756 w_1758 w_73 w_115 w_1759 hd_X11_isEndOf ⟨rfl, rfl, Nat.le_of_ble_eq_true rfl, Nat.le_of_ble_eq_true rfl, Nat.zero_le _, Nat.zero_le _⟩ hP hD hS lk_X11 rfl hl.1 rfl (Nat.le_of_ble_eq_true rfl) dX11_howOf_90) (fun H locs hP hD hS => ?_)
        refine lv_if_ne (tgt := 116) hx hb dX11_howOf_93 (by decide) (fun c12 => ?_) (fun c12 => ?_)
        · replace hf := xsBr_f c12 hf
          refine lv_iconst (v := (1 : Int32)) hx hb dX11_howOf_116 (by decide) ?_
          refine lv_goto (tgt := 121) hx hb dX11_howOf_117 (by decide) ?_
          have ho := Option.some.inj hf
          subst ho
          rw [hQq]
          exact xs_iret C hr hlk hP hD hS dX11_howOf_121
        · replace hf := xsBr_t c12 hf
          refine lv_aload_n hx hb dX11_howOf_96 rfl (lv_at hl 1 rfl) ?_
          refine lv_iload_n hx hb dX11_howOf_97 rfl (lv_at hl 3 rfl) ?_
          refine lv_aload_n hx hb dX11_howOf_98 rfl (lv_at hl 1 rfl) ?_
          refine xg_X11_147 C hP dX11_howOf_99 ?_
          refine lv_aload_n hx hb dX11_howOf_102 rfl (lv_at hl 1 rfl) ?_
          refine xg_X11_151 C hP dX11_howOf_103 ?_
          refine lv_aload_n hx hb dX11_howOf_106 rfl (lv_at hl 1 rfl) ?_
          refine xg_X11_154 C hP dX11_howOf_107 ?_
          replace hf := xsBd_use hf
          obtain ⟨o9, h10, hf⟩ := hf
          refine xs_calli hS (xs_runV (As := [.int a1, .long o5.2.2.2.2.1, .long o5.2.2.2.2.2.1, .long o5.2.2.2.2.2.2]) C (mX11_isEndOf l  h10) w_1756 w_1758 w_73 w_115 w_1759 hd_X11_isEndOf ⟨rfl, rfl, Nat.le_of_ble_eq_true rfl, Nat.le_of_ble_eq_true rfl, Nat.zero_le _, Nat.zero_le _⟩ hP hD hS lk_X11 rfl hl.1 rfl (Nat.le_of_ble_eq_true rfl) dX11_howOf_110) (fun H locs hP hD hS => ?_)
          refine lv_if_eq (tgt := 120) hx hb dX11_howOf_113 (by decide) (fun c11 => ?_) (fun c11 => ?_)
          · replace hf := xsBr_t c11 hf
            refine lv_iconst (v := (2 : Int32)) hx hb dX11_howOf_120 (by decide) ?_
            have ho := Option.some.inj hf
            subst ho
            rw [hQq]
            exact xs_iret C hr hlk hP hD hS dX11_howOf_121
          · replace hf := xsBr_f c11 hf
            refine lv_iconst (v := (1 : Int32)) hx hb dX11_howOf_116 (by decide) ?_
            refine lv_goto (tgt := 121) hx hb dX11_howOf_117 (by decide) ?_
            have ho := Option.some.inj hf
            subst ho
            rw [hQq]
            exact xs_iret C hr hlk hP hD hS dX11_howOf_121
      · replace hf := xsBr_f c14 hf
        refine lv_iload hx hb dX11_howOf_64 (lv_at hl 0 rfl) ?_
        refine lv_iconst (v := (2 : Int32)) hx hb dX11_howOf_66 (by decide) ?_
        refine lv_icmp_ne (tgt := 74) hx hb dX11_howOf_67 (by decide) (fun c13 => ?_) (fun c13 => ?_)
        · replace hf := xsBr_f c13 hf
          refine lv_iconst (v := (0 : Int32)) hx hb dX11_howOf_74 (by decide) ?_
          have ho := Option.some.inj hf
          subst ho
          rw [hQq]
          exact xs_iret C hr hlk hP hD hS dX11_howOf_75
        · replace hf := xsBr_t c13 hf
          refine lv_iconst (v := (3 : Int32)) hx hb dX11_howOf_70 (by decide) ?_
          refine lv_goto (tgt := 75) hx hb dX11_howOf_71 (by decide) ?_
          have ho := Option.some.inj hf
          subst ho
          rw [hQq]
          exact xs_iret C hr hlk hP hD hS dX11_howOf_75
    · replace hf := xsBr_f c15 hf
      refine lv_iconst (v := (4 : Int32)) hx hb dX11_howOf_56 (by decide) ?_
      have ho := Option.some.inj hf
      subst ho
      rw [hQq]
      exact xs_iret C hr hlk hP hD hS dX11_howOf_57
  replace hf := xsBd_use hf
  obtain ⟨r3, hk30, hf⟩ := hf
  have L3 : ∀ (sg : Int32 × Int32) (rg : Int32), xsWh (fun s3 => fX11_howOf_L5 mWorld a0 a1 s3.1 s3.2) sg = some rg → (fX11_howOf_J44 mWorld mOne mTwo mShare mX mY mD a0 a1 rg = some out → ∀ (H : Heap) (locs : List Loc) (ls : Array Slot), va_P (xsD X) vwCl (wM X mThrown mWorld mImage mDraft mEarlier mRemembered mHasImage mIsLaid mOne mTwo mShare mX mY mD mEventX mEventY mEventD mEvents mCrossingOf mBundle mEventOf mDegree mFrom mTo mCrossings mEdges mMet mUpper mLower mTape mTaped mPoint mEnd mBegin mFaultAt mFive mTold mActs mFar mViews mHullX mHullY mEndX mEndY mHeightUp mHeightLow mMeets mMeetsOf Rw) H → va_D (xsF X) (wM X mThrown mWorld mImage mDraft mEarlier mRemembered mHasImage mIsLaid mOne mTwo mShare mX mY mD mEventX mEventY mEventD mEvents mCrossingOf mBundle mEventOf mDegree mFrom mTo mCrossings mEdges mMet mUpper mLower mTape mTaped mPoint mEnd mBegin mFaultAt mFive mTold mActs mFar mViews mHullX mHullY mEndX mEndY mHeightUp mHeightLow mMeets mMeetsOf Rw) → va_S (xsF X) s.heap H locs → lv_has ls 5 [(0, .ref (xsA X 100)), (1, .int a0), (2, .int a1), (3, .int sg.1), (4, .int sg.2)] → W p l e { frames := 5, cells := 0, slots := 0, locals := 141 } s m ([.ref (xsA X 100), .int a0, .int a1] : List Value).toArray below meth c H locs 0 0 (MQ below Qq ([.ref (xsA X 100), .int a0, .int a1] : List Value).toArray s 0 0 (xsF X)) (F0 m 5 ls [])) := by
    refine xsWh_ind ?_
    intro sg r3 u3 hf ih3 hx3 hk3 H locs ls hP hD hS hl
    obtain ⟨y1, y2⟩ := sg
    replace hf : fX11_howOf_L5 mWorld a0 a1 y1 y2 = some u3 := hf
    replace hl : lv_has ls 5 [(0, .ref (xsA X 100)), (1, .int a0), (2, .int a1), (3, .int y1), (4, .int y2)] := hl
    replace hP : va_P (xsD X) vwCl (wM X mThrown mWorld mImage mDraft mEarlier mRemembered mHasImage mIsLaid mOne mTwo mShare mX mY mD mEventX mEventY mEventD mEvents mCrossingOf mBundle mEventOf mDegree mFrom mTo mCrossings mEdges mMet mUpper mLower mTape mTaped mPoint mEnd mBegin mFaultAt mFive mTold mActs mFar mViews mHullX mHullY mEndX mEndY mHeightUp mHeightLow mMeets mMeetsOf Rw) H := hP
    replace hD : va_D (xsF X) (wM X mThrown mWorld mImage mDraft mEarlier mRemembered mHasImage mIsLaid mOne mTwo mShare mX mY mD mEventX mEventY mEventD mEvents mCrossingOf mBundle mEventOf mDegree mFrom mTo mCrossings mEdges mMet mUpper mLower mTape mTaped mPoint mEnd mBegin mFaultAt mFive mTold mActs mFar mViews mHullX mHullY mEndX mEndY mHeightUp mHeightLow mMeets mMeetsOf Rw) := hD
    unfold fX11_howOf_L5 at hf
    refine lv_iload hx hb dX11_howOf_5 (lv_at hl 4 rfl) ?_
    refine lv_iconst (v := (4 : Int32)) hx hb dX11_howOf_7 (by decide) ?_
    refine lv_icmp_ge (tgt := 44) hx hb dX11_howOf_8 (by decide) (fun c27 => ?_) (fun c27 => ?_)
    · replace hf := xsBr_t c27 hf
      have ez := hx3 _ (Option.some.inj hf).symm
      subst ez
      exact K3 y1 hk3 H locs ls hP hD hS (lv_sub hl [0, 1, 2, 3] rfl)
    · replace hf := xsBr_f c27 hf
      refine lv_iload_n hx hb dX11_howOf_11 rfl (lv_at hl 3 rfl) ?_
      have K20 : ∀ (y16 : Int32) (hf : fX11_howOf_J37 y2 y16 = some u3) (H : Heap) (locs : List Loc) (ls : Array Slot), va_P (xsD X) vwCl (wM X mThrown mWorld mImage mDraft mEarlier mRemembered mHasImage mIsLaid mOne mTwo mShare mX mY mD mEventX mEventY mEventD mEvents mCrossingOf mBundle mEventOf mDegree mFrom mTo mCrossings mEdges mMet mUpper mLower mTape mTaped mPoint mEnd mBegin mFaultAt mFive mTold mActs mFar mViews mHullX mHullY mEndX mEndY mHeightUp mHeightLow mMeets mMeetsOf Rw) H → va_D (xsF X) (wM X mThrown mWorld mImage mDraft mEarlier mRemembered mHasImage mIsLaid mOne mTwo mShare mX mY mD mEventX mEventY mEventD mEvents mCrossingOf mBundle mEventOf mDegree mFrom mTo mCrossings mEdges mMet mUpper mLower mTape mTaped mPoint mEnd mBegin mFaultAt mFive mTold mActs mFar mViews mHullX mHullY mEndX mEndY mHeightUp mHeightLow mMeets mMeetsOf Rw) → va_S (xsF X) s.heap H locs → lv_has ls 5 [(0, .ref (xsA X 100)), (1, .int a0), (2, .int a1), (4, .int y2)] → W p l e { frames := 5, cells := 0, slots := 0, locals := 141 } s m ([.ref (xsA X 100), .int a0, .int a1] : List Value).toArray below meth c H locs 0 0 (MQ below Qq ([.ref (xsA X 100), .int a0, .int a1] : List Value).toArray s 0 0 (xsF X)) (F0 m 37 ls [.int y16]) := by
        intro y16 hf H locs ls hP hD hS hl
        unfold fX11_howOf_J37 at hf
        refine lv_istore_n (lv' := [(3, .int y16), (0, .ref (xsA X 100)), (1, .int a0), (2, .int a1), (4, .int y2)]) hx hb dX11_howOf_37 rfl hl (by decide) rfl (fun ls hl => ?_)
        obtain ⟨x17, ex17⟩ : ∃ y : Int32, y = y2 + (1 : Int32) := ⟨_, rfl⟩
        replace hf := xsLt_use ex17 hf
        refine lv_iinc (v := x17) (lv' := [(4, .int x17), (3, .int y16), (0, .ref (xsA X 100)), (1, .int a0), (2, .int a1)]) hx hb dX11_howOf_38 hl (k := 4) rfl (by rw [ex17]; rfl) (by decide) rfl (fun ls hl => ?_)
        refine lv_goto (tgt := 5) hx hb dX11_howOf_41 (by decide) ?_
        exact ih3 _ (Option.some.inj hf).symm hk3 H locs ls hP hD hS (lv_sub hl [2, 3, 4, 1, 0] rfl)
      replace hf := xsBd_use hf
      obtain ⟨v18, hf, hk19⟩ := hf
      refine lv_if_eq (tgt := 36) hx hb dX11_howOf_12 (by decide) (fun c26 => ?_) (fun c26 => ?_)
      · replace hf := xsBr_t c26 hf
        refine lv_iconst (v := (0 : Int32)) hx hb dX11_howOf_36 (by decide) ?_
        have ev := Option.some.inj hf
        subst ev
        exact K20 (0 : Int32) hk19 H locs ls hP hD hS (lv_sub hl [0, 1, 2, 4] rfl)
      · replace hf := xsBr_f c26 hf
        refine lv_aload_n hx hb dX11_howOf_15 rfl (lv_at hl 0 rfl) ?_
        refine lv_iload_n hx hb dX11_howOf_16 rfl (lv_at hl 1 rfl) ?_
        refine lv_iload hx hb dX11_howOf_17 (lv_at hl 4 rfl) ?_
        replace hf := xsBd_use hf
        obtain ⟨o21, h22, hf⟩ := hf
        refine xs_calli hS (xs_runV (As := [.int a0, .int y2]) C (mX11_of l  h22) w_1608 w_1610 w_50 w_115 w_1611 hd_X11_of ⟨rfl, rfl, Nat.le_of_ble_eq_true rfl, Nat.le_of_ble_eq_true rfl, Nat.zero_le _, Nat.zero_le _⟩ hP hD hS lk_X11 rfl hl.1 rfl (Nat.le_of_ble_eq_true rfl) dX11_howOf_19) (fun H locs hP hD hS => ?_)
        refine lv_aload_n hx hb dX11_howOf_22 rfl (lv_at hl 0 rfl) ?_
        refine lv_iload_n hx hb dX11_howOf_23 rfl (lv_at hl 2 rfl) ?_
        refine lv_iload hx hb dX11_howOf_24 (lv_at hl 4 rfl) ?_
        replace hf := xsBd_use hf
        obtain ⟨o23, h24, hf⟩ := hf
        refine xs_calli hS (xs_runV (As := [.int a1, .int y2]) C (mX11_of l  h24) w_1608 w_1610 w_50 w_115 w_1611 hd_X11_of ⟨rfl, rfl, Nat.le_of_ble_eq_true rfl, Nat.le_of_ble_eq_true rfl, Nat.zero_le _, Nat.zero_le _⟩ hP hD hS lk_X11 rfl hl.1 rfl (Nat.le_of_ble_eq_true rfl) dX11_howOf_26) (fun H locs hP hD hS => ?_)
        refine lv_icmp_ne (tgt := 36) hx hb dX11_howOf_29 (by decide) (fun c25 => ?_) (fun c25 => ?_)
        · replace hf := xsBr_f c25 hf
          refine lv_iconst (v := (0 : Int32)) hx hb dX11_howOf_36 (by decide) ?_
          have ev := Option.some.inj hf
          subst ev
          exact K20 (0 : Int32) hk19 H locs ls hP hD hS (lv_sub hl [0, 1, 2, 4] rfl)
        · replace hf := xsBr_t c25 hf
          refine lv_iconst (v := (1 : Int32)) hx hb dX11_howOf_32 (by decide) ?_
          refine lv_goto (tgt := 37) hx hb dX11_howOf_33 (by decide) ?_
          have ev := Option.some.inj hf
          subst ev
          exact K20 (1 : Int32) hk19 H locs ls hP hD hS (lv_sub hl [0, 1, 2, 4] rfl)
  exact L3 ((1 : Int32), (0 : Int32)) r3 hk30 hf H locs ls hP hD hS (lv_sub hl [2, 3, 4, 1, 0] rfl)
set_option maxRecDepth 100000 in
set_option maxHeartbeats 8000000 in
theorem mX11_against (l : Launch) {X : xsX} {w : va_W} {a0 : Int64} {a1 : Int64} {a2 : Int64} {a3 : Int64} {a4 : Int64} {a5 : Int64} {out : Int32} (hf : fX11_against a0 a1 a2 a3 a4 a5 = some out) : Met l yX11_against (xsWs yX11_against cX11_against 16 (some .int)) { frames := 0, cells := 0, slots := 0, locals := 0 } (xsP X (w) [.long a0, .long a1, .long a2, .long a3, .long a4, .long a5]) (xsQi X out (w)) 0 0 (xsF X) := by
  refine xs_meth RX11 (by decide) rfl (Nat.le_of_ble_eq_true rfl) ?_
  intro p e s m below meth c ls H locs C hP hD hS hr hlk hl
  have hx := C.1
  have hb := C.2.1
  have hl : lv_has ls 16 [(0, .long a0), (2, .long a1), (4, .long a2), (6, .long a3), (8, .long a4), (10, .long a5)] := hl
  obtain ⟨Qq, hQq⟩ : ∃ Qq, Qq = xsQi X out (w) := ⟨_, rfl⟩
  rw [← hQq]
  unfold fX11_against at hf
  refine lv_lload_n hx hb dX11_against_0 rfl (lv_at hl 0 rfl) ?_
  refine lv_lload hx hb dX11_against_1 (lv_at hl 5 rfl) ?_
  refine lv_lmul hx hb dX11_against_3 ?_
  refine lv_lload hx hb dX11_against_4 (lv_at hl 3 rfl) ?_
  refine lv_lload hx hb dX11_against_6 (lv_at hl 2 rfl) ?_
  refine lv_lmul hx hb dX11_against_8 ?_
  refine lv_lsub hx hb dX11_against_9 ?_
  refine lv_topl (fun x1 ex1 => ?_)
  replace hf := xsLt_use ex1 hf
  refine lv_lstore (lv' := [(12, .long x1), (0, .long a0), (2, .long a1), (4, .long a2), (6, .long a3), (8, .long a4), (10, .long a5)]) hx hb dX11_against_10 hl (by decide) rfl (fun ls hl => ?_)
  refine lv_lload hx hb dX11_against_12 (lv_at hl 0 rfl) ?_
  refine lv_lconst (v := (0 : Int64)) hx hb dX11_against_14 (by decide) ?_
  have K7 : ∀ (y2 : Int64) (hf : fX11_against_J34 y2 = some out) (H : Heap) (locs : List Loc) (ls : Array Slot), va_P (xsD X) vwCl (w) H → va_D (xsF X) (w) → va_S (xsF X) s.heap H locs → lv_has ls 16 [] → W p l e { frames := 0, cells := 0, slots := 0, locals := 0 } s m ([.long a0, .long a1, .long a2, .long a3, .long a4, .long a5] : List Value).toArray below meth c H locs 0 0 (MQ below Qq ([.long a0, .long a1, .long a2, .long a3, .long a4, .long a5] : List Value).toArray s 0 0 (xsF X)) (F0 m 34 ls [.long y2]) := by
    intro y2 hf H locs ls hP hD hS hl
    unfold fX11_against_J34 at hf
    refine lv_lstore (lv' := [(14, .long y2)]) hx hb dX11_against_34 hl (by decide) rfl (fun ls hl => ?_)
    refine lv_lload hx hb dX11_against_36 (lv_at hl 0 rfl) ?_
    refine lv_lconst (v := (0 : Int64)) hx hb dX11_against_38 (by decide) ?_
    refine xs_lcmp_ge (tgt := 47) C dX11_against_39 dX11_against_40 (by decide) (fun c4 => ?_) (fun c4 => ?_)
    · replace hf := xsBr_t c4 hf
      refine lv_lload hx hb dX11_against_47 (lv_at hl 0 rfl) ?_
      refine lv_lconst (v := (0 : Int64)) hx hb dX11_against_49 (by decide) ?_
      refine xs_lcmp_le (tgt := 58) C dX11_against_50 dX11_against_51 (by decide) (fun c3 => ?_) (fun c3 => ?_)
      · replace hf := xsBr_t c3 hf
        refine lv_iconst (v := (0 : Int32)) hx hb dX11_against_58 (by decide) ?_
        have ho := Option.some.inj hf
        subst ho
        rw [hQq]
        exact xs_iret C hr hlk hP hD hS dX11_against_59
      · replace hf := xsBr_f c3 hf
        refine lv_iconst (v := (1 : Int32)) hx hb dX11_against_54 (by decide) ?_
        refine lv_goto (tgt := 59) hx hb dX11_against_55 (by decide) ?_
        have ho := Option.some.inj hf
        subst ho
        rw [hQq]
        exact xs_iret C hr hlk hP hD hS dX11_against_59
    · replace hf := xsBr_f c4 hf
      refine lv_iconst (v := (-1 : Int32)) hx hb dX11_against_43 (by decide) ?_
      refine lv_goto (tgt := 59) hx hb dX11_against_44 (by decide) ?_
      have ho := Option.some.inj hf
      subst ho
      rw [hQq]
      exact xs_iret C hr hlk hP hD hS dX11_against_59
  replace hf := xsBd_use hf
  obtain ⟨v5, hf, hk6⟩ := hf
  refine xs_lcmp_ne (tgt := 32) C dX11_against_15 dX11_against_16 (by decide) (fun c8 => ?_) (fun c8 => ?_)
  · replace hf := xsBr_f c8 hf
    refine lv_lload hx hb dX11_against_32 (lv_at hl 0 rfl) ?_
    have ev := Option.some.inj hf
    subst ev
    exact K7 x1 hk6 H locs ls hP hD hS (lv_sub hl [] rfl)
  · replace hf := xsBr_t c8 hf
    refine lv_lload_n hx hb dX11_against_19 rfl (lv_at hl 2 rfl) ?_
    refine lv_lload hx hb dX11_against_20 (lv_at hl 6 rfl) ?_
    refine lv_lmul hx hb dX11_against_22 ?_
    refine lv_lload hx hb dX11_against_23 (lv_at hl 5 rfl) ?_
    refine lv_lload hx hb dX11_against_25 (lv_at hl 3 rfl) ?_
    refine lv_lmul hx hb dX11_against_27 ?_
    refine lv_lsub hx hb dX11_against_28 ?_
    refine lv_goto (tgt := 34) hx hb dX11_against_29 (by decide) ?_
    have ev := Option.some.inj hf
    subst ev
    exact K7 ((a1 * a5) - (a4 * a2)) hk6 H locs ls hP hD hS (lv_sub hl [] rfl)
set_option maxRecDepth 100000 in
set_option maxHeartbeats 8000000 in
theorem mX11_stands (l : Launch) {X : xsX} {mThrown mRemembered mHasImage mIsLaid mEvents mCrossings mEdges mTaped mPoint mEnd mBegin mFaultAt mActs : Int32} {mWorld mImage mDraft mEarlier mOne mTwo mShare mCrossingOf mBundle mEventOf mDegree mFrom mTo mMet mTape mFive mTold mFar mViews mHullX mHullY mEndX mEndY mMeets mMeetsOf : Nat → Int32} {mX mY mD mHeightUp mHeightLow : Int64} {mEventX mEventY mEventD mUpper mLower : Nat → Int64} {Rw : va_W} {a0 : Int64} {a1 : Int64} {a2 : Int64} {out : Int32 × (Nat → Int64) × (Nat → Int64) × (Nat → Int64) × Int32 × (Nat → Int32)} (hf : fX11_stands mEventX mEventY mEventD mEvents mCrossingOf a0 a1 a2 = some out) : Met l yX11_stands (xsWs yX11_stands cX11_stands 9 (some .int)) { frames := 1, cells := 0, slots := 0, locals := 35 } (xsP X (wM X mThrown mWorld mImage mDraft mEarlier mRemembered mHasImage mIsLaid mOne mTwo mShare mX mY mD mEventX mEventY mEventD mEvents mCrossingOf mBundle mEventOf mDegree mFrom mTo mCrossings mEdges mMet mUpper mLower mTape mTaped mPoint mEnd mBegin mFaultAt mFive mTold mActs mFar mViews mHullX mHullY mEndX mEndY mHeightUp mHeightLow mMeets mMeetsOf Rw) [.ref (xsA X 100), .long a0, .long a1, .long a2]) (xsQi X out.1 (wM X mThrown mWorld mImage mDraft mEarlier mRemembered mHasImage mIsLaid mOne mTwo mShare mX mY mD out.2.1 out.2.2.1 out.2.2.2.1 out.2.2.2.2.1 out.2.2.2.2.2 mBundle mEventOf mDegree mFrom mTo mCrossings mEdges mMet mUpper mLower mTape mTaped mPoint mEnd mBegin mFaultAt mFive mTold mActs mFar mViews mHullX mHullY mEndX mEndY mHeightUp mHeightLow mMeets mMeetsOf Rw)) 0 0 (xsF X) := by
  refine xs_meth RX11 (by decide) rfl (Nat.le_of_ble_eq_true rfl) ?_
  intro p e s m below meth c ls H locs C hP hD hS hr hlk hl
  have hx := C.1
  have hb := C.2.1
  have hl : lv_has ls 9 [(0, .ref (xsA X 100)), (1, .long a0), (3, .long a1), (5, .long a2)] := hl
  obtain ⟨Qq, hQq⟩ : ∃ Qq, Qq = xsQi X out.1 (wM X mThrown mWorld mImage mDraft mEarlier mRemembered mHasImage mIsLaid mOne mTwo mShare mX mY mD out.2.1 out.2.2.1 out.2.2.2.1 out.2.2.2.2.1 out.2.2.2.2.2 mBundle mEventOf mDegree mFrom mTo mCrossings mEdges mMet mUpper mLower mTape mTaped mPoint mEnd mBegin mFaultAt mFive mTold mActs mFar mViews mHullX mHullY mEndX mEndY mHeightUp mHeightLow mMeets mMeetsOf Rw) := ⟨_, rfl⟩
  rw [← hQq]
  unfold fX11_stands at hf
  refine lv_iconst (v := (0 : Int32)) hx hb dX11_stands_0 (by decide) ?_
  refine lv_istore (lv' := [(7, .int (0 : Int32)), (0, .ref (xsA X 100)), (1, .long a0), (3, .long a1), (5, .long a2)]) hx hb dX11_stands_1 hl (by decide) rfl (fun ls hl => ?_)
  have K2 : ∀ (y3 : Int32) (hf : fX11_stands_J49 mEventX mEventY mEventD mEvents mCrossingOf a0 a1 a2 y3 = some out) (H : Heap) (locs : List Loc) (ls : Array Slot), va_P (xsD X) vwCl (wM X mThrown mWorld mImage mDraft mEarlier mRemembered mHasImage mIsLaid mOne mTwo mShare mX mY mD mEventX mEventY mEventD mEvents mCrossingOf mBundle mEventOf mDegree mFrom mTo mCrossings mEdges mMet mUpper mLower mTape mTaped mPoint mEnd mBegin mFaultAt mFive mTold mActs mFar mViews mHullX mHullY mEndX mEndY mHeightUp mHeightLow mMeets mMeetsOf Rw) H → va_D (xsF X) (wM X mThrown mWorld mImage mDraft mEarlier mRemembered mHasImage mIsLaid mOne mTwo mShare mX mY mD mEventX mEventY mEventD mEvents mCrossingOf mBundle mEventOf mDegree mFrom mTo mCrossings mEdges mMet mUpper mLower mTape mTaped mPoint mEnd mBegin mFaultAt mFive mTold mActs mFar mViews mHullX mHullY mEndX mEndY mHeightUp mHeightLow mMeets mMeetsOf Rw) → va_S (xsF X) s.heap H locs → lv_has ls 9 [(0, .ref (xsA X 100)), (1, .long a0), (3, .long a1), (5, .long a2), (7, .int y3)] → W p l e { frames := 1, cells := 0, slots := 0, locals := 35 } s m ([.ref (xsA X 100), .long a0, .long a1, .long a2] : List Value).toArray below meth c H locs 0 0 (MQ below Qq ([.ref (xsA X 100), .long a0, .long a1, .long a2] : List Value).toArray s 0 0 (xsF X)) (F0 m 49 ls []) := by
    intro y3 hf H locs ls hP hD hS hl
    unfold fX11_stands_J49 at hf
    refine lv_iload hx hb dX11_stands_49 (lv_at hl 4 rfl) ?_
    refine lv_aload_n hx hb dX11_stands_51 rfl (lv_at hl 0 rfl) ?_
    refine xg_X11_193 C hP dX11_stands_52 ?_
    have K37 : ∀ (hf : fX11_stands_J92 mEventX mEventY mEventD mEvents mCrossingOf a0 a1 a2 y3 = some out) (H : Heap) (locs : List Loc) (ls : Array Slot), va_P (xsD X) vwCl (wM X mThrown mWorld mImage mDraft mEarlier mRemembered mHasImage mIsLaid mOne mTwo mShare mX mY mD mEventX mEventY mEventD mEvents mCrossingOf mBundle mEventOf mDegree mFrom mTo mCrossings mEdges mMet mUpper mLower mTape mTaped mPoint mEnd mBegin mFaultAt mFive mTold mActs mFar mViews mHullX mHullY mEndX mEndY mHeightUp mHeightLow mMeets mMeetsOf Rw) H → va_D (xsF X) (wM X mThrown mWorld mImage mDraft mEarlier mRemembered mHasImage mIsLaid mOne mTwo mShare mX mY mD mEventX mEventY mEventD mEvents mCrossingOf mBundle mEventOf mDegree mFrom mTo mCrossings mEdges mMet mUpper mLower mTape mTaped mPoint mEnd mBegin mFaultAt mFive mTold mActs mFar mViews mHullX mHullY mEndX mEndY mHeightUp mHeightLow mMeets mMeetsOf Rw) → va_S (xsF X) s.heap H locs → lv_has ls 9 [(0, .ref (xsA X 100)), (1, .long a0), (3, .long a1), (5, .long a2), (7, .int y3)] → W p l e { frames := 1, cells := 0, slots := 0, locals := 35 } s m ([.ref (xsA X 100), .long a0, .long a1, .long a2] : List Value).toArray below meth c H locs 0 0 (MQ below Qq ([.ref (xsA X 100), .long a0, .long a1, .long a2] : List Value).toArray s 0 0 (xsF X)) (F0 m 92 ls []) := by
      intro hf H locs ls hP hD hS hl
      unfold fX11_stands_J92 at hf
      refine lv_aload_n hx hb dX11_stands_92 rfl (lv_at hl 0 rfl) ?_
      refine xg_X11_193 C hP dX11_stands_93 ?_
      refine lv_istore (lv' := [(8, .int mEvents), (0, .ref (xsA X 100)), (1, .long a0), (3, .long a1), (5, .long a2), (7, .int y3)]) hx hb dX11_stands_96 hl (by decide) rfl (fun ls hl => ?_)
      have K9 : ∀ (y10 : Nat → Int64) (y11 : Nat → Int64) (y12 : Nat → Int64) (y13 : Nat → Int32) (hf : fX11_stands_J175 mEvents a0 a1 a2 y3 y10 y11 y12 y13 = some out) (H : Heap) (locs : List Loc) (ls : Array Slot), va_P (xsD X) vwCl (wM X mThrown mWorld mImage mDraft mEarlier mRemembered mHasImage mIsLaid mOne mTwo mShare mX mY mD y10 y11 y12 mEvents y13 mBundle mEventOf mDegree mFrom mTo mCrossings mEdges mMet mUpper mLower mTape mTaped mPoint mEnd mBegin mFaultAt mFive mTold mActs mFar mViews mHullX mHullY mEndX mEndY mHeightUp mHeightLow mMeets mMeetsOf Rw) H → va_D (xsF X) (wM X mThrown mWorld mImage mDraft mEarlier mRemembered mHasImage mIsLaid mOne mTwo mShare mX mY mD y10 y11 y12 mEvents y13 mBundle mEventOf mDegree mFrom mTo mCrossings mEdges mMet mUpper mLower mTape mTaped mPoint mEnd mBegin mFaultAt mFive mTold mActs mFar mViews mHullX mHullY mEndX mEndY mHeightUp mHeightLow mMeets mMeetsOf Rw) → va_S (xsF X) s.heap H locs → lv_has ls 9 [(0, .ref (xsA X 100)), (1, .long a0), (3, .long a1), (5, .long a2), (7, .int y3)] → W p l e { frames := 1, cells := 0, slots := 0, locals := 35 } s m ([.ref (xsA X 100), .long a0, .long a1, .long a2] : List Value).toArray below meth c H locs 0 0 (MQ below Qq ([.ref (xsA X 100), .long a0, .long a1, .long a2] : List Value).toArray s 0 0 (xsF X)) (F0 m 175 ls []) := by
        intro y10 y11 y12 y13 hf H locs ls hP hD hS hl
        unfold fX11_stands_J175 at hf
        refine lv_aload_n hx hb dX11_stands_175 rfl (lv_at hl 0 rfl) ?_
        refine xg_X11_35 C hP dX11_stands_176 ?_
        refine lv_iload hx hb dX11_stands_179 (lv_at hl 4 rfl) ?_
        refine lv_lload_n hx hb dX11_stands_181 rfl (lv_at hl 1 rfl) ?_
        replace hf := xsCk_use hf
        obtain ⟨h14, hf⟩ := hf
        refine xs_mEventX C hP hD hS h14 dX11_stands_182 (fun f15 ef15 H locs hP hD hS => ?_)
        replace hf := xsLt_use ef15 hf
        refine lv_aload_n hx hb dX11_stands_183 rfl (lv_at hl 0 rfl) ?_
        refine xg_X11_39 C hP dX11_stands_184 ?_
        refine lv_iload hx hb dX11_stands_187 (lv_at hl 4 rfl) ?_
        refine lv_lload_n hx hb dX11_stands_189 rfl (lv_at hl 2 rfl) ?_
        replace hf := xsCk_use hf
        obtain ⟨h16, hf⟩ := hf
        refine xs_mEventY C hP hD hS h16 dX11_stands_190 (fun f17 ef17 H locs hP hD hS => ?_)
        replace hf := xsLt_use ef17 hf
        refine lv_aload_n hx hb dX11_stands_191 rfl (lv_at hl 0 rfl) ?_
        refine xg_X11_42 C hP dX11_stands_192 ?_
        refine lv_iload hx hb dX11_stands_195 (lv_at hl 4 rfl) ?_
        refine lv_lload hx hb dX11_stands_197 (lv_at hl 3 rfl) ?_
        replace hf := xsCk_use hf
        obtain ⟨h18, hf⟩ := hf
        refine xs_mEventD C hP hD hS h18 dX11_stands_199 (fun f19 ef19 H locs hP hD hS => ?_)
        replace hf := xsLt_use ef19 hf
        refine lv_aload_n hx hb dX11_stands_200 rfl (lv_at hl 0 rfl) ?_
        refine xg_X11_45 C hP dX11_stands_201 ?_
        refine lv_iload hx hb dX11_stands_204 (lv_at hl 4 rfl) ?_
        refine lv_iconst (v := (-1 : Int32)) hx hb dX11_stands_206 (by decide) ?_
        replace hf := xsCk_use hf
        obtain ⟨h20, hf⟩ := hf
        refine xs_mCrossingOf C hP hD hS h20 dX11_stands_207 (fun f21 ef21 H locs hP hD hS => ?_)
        replace hf := xsLt_use ef21 hf
        refine lv_aload_n hx hb dX11_stands_208 rfl (lv_at hl 0 rfl) ?_
        refine lv_dup hx hb dX11_stands_209 rfl ?_
        refine xg_X11_193 C hP dX11_stands_210 ?_
        refine lv_iconst (v := (1 : Int32)) hx hb dX11_stands_213 (by decide) ?_
        refine lv_iadd hx hb dX11_stands_214 ?_
        refine lv_topi (fun x22 ex22 => ?_)
        replace hf := xsLt_use ex22 hf
        refine xp_X11_193 C hP hD hS dX11_stands_215 (fun H locs hP hD hS => ?_)
        refine lv_iload hx hb dX11_stands_218 (lv_at hl 4 rfl) ?_
        have ho := Option.some.inj hf
        subst ho
        rw [hQq]
        exact xs_iret C hr hlk hP hD hS dX11_stands_220
      replace hf := xsBd_use hf
      obtain ⟨r9, hk90, hf⟩ := hf
      have L9 : ∀ (sg : Int32 × (Nat → Int64) × (Nat → Int64) × (Nat → Int64) × (Nat → Int32)) (rg : (Nat → Int64) × (Nat → Int64) × (Nat → Int64) × (Nat → Int32)), xsWh (fun s9 => fX11_stands_L98 y3 s9.1 s9.2.1 s9.2.2.1 s9.2.2.2.1 s9.2.2.2.2) sg = some rg → (fX11_stands_J175 mEvents a0 a1 a2 y3 rg.1 rg.2.1 rg.2.2.1 rg.2.2.2 = some out → ∀ (H : Heap) (locs : List Loc) (ls : Array Slot), va_P (xsD X) vwCl (wM X mThrown mWorld mImage mDraft mEarlier mRemembered mHasImage mIsLaid mOne mTwo mShare mX mY mD sg.2.1 sg.2.2.1 sg.2.2.2.1 mEvents sg.2.2.2.2 mBundle mEventOf mDegree mFrom mTo mCrossings mEdges mMet mUpper mLower mTape mTaped mPoint mEnd mBegin mFaultAt mFive mTold mActs mFar mViews mHullX mHullY mEndX mEndY mHeightUp mHeightLow mMeets mMeetsOf Rw) H → va_D (xsF X) (wM X mThrown mWorld mImage mDraft mEarlier mRemembered mHasImage mIsLaid mOne mTwo mShare mX mY mD sg.2.1 sg.2.2.1 sg.2.2.2.1 mEvents sg.2.2.2.2 mBundle mEventOf mDegree mFrom mTo mCrossings mEdges mMet mUpper mLower mTape mTaped mPoint mEnd mBegin mFaultAt mFive mTold mActs mFar mViews mHullX mHullY mEndX mEndY mHeightUp mHeightLow mMeets mMeetsOf Rw) → va_S (xsF X) s.heap H locs → lv_has ls 9 [(0, .ref (xsA X 100)), (1, .long a0), (3, .long a1), (5, .long a2), (7, .int y3), (8, .int sg.1)] → W p l e { frames := 1, cells := 0, slots := 0, locals := 35 } s m ([.ref (xsA X 100), .long a0, .long a1, .long a2] : List Value).toArray below meth c H locs 0 0 (MQ below Qq ([.ref (xsA X 100), .long a0, .long a1, .long a2] : List Value).toArray s 0 0 (xsF X)) (F0 m 98 ls [])) := by
        refine xsWh_ind ?_
        intro sg r9 u9 hf ih9 hx9 hk9 H locs ls hP hD hS hl
        obtain ⟨y4, y5, y6, y7, y8⟩ := sg
        replace hf : fX11_stands_L98 y3 y4 y5 y6 y7 y8 = some u9 := hf
        replace hl : lv_has ls 9 [(0, .ref (xsA X 100)), (1, .long a0), (3, .long a1), (5, .long a2), (7, .int y3), (8, .int y4)] := hl
        replace hP : va_P (xsD X) vwCl (wM X mThrown mWorld mImage mDraft mEarlier mRemembered mHasImage mIsLaid mOne mTwo mShare mX mY mD y5 y6 y7 mEvents y8 mBundle mEventOf mDegree mFrom mTo mCrossings mEdges mMet mUpper mLower mTape mTaped mPoint mEnd mBegin mFaultAt mFive mTold mActs mFar mViews mHullX mHullY mEndX mEndY mHeightUp mHeightLow mMeets mMeetsOf Rw) H := hP
        replace hD : va_D (xsF X) (wM X mThrown mWorld mImage mDraft mEarlier mRemembered mHasImage mIsLaid mOne mTwo mShare mX mY mD y5 y6 y7 mEvents y8 mBundle mEventOf mDegree mFrom mTo mCrossings mEdges mMet mUpper mLower mTape mTaped mPoint mEnd mBegin mFaultAt mFive mTold mActs mFar mViews mHullX mHullY mEndX mEndY mHeightUp mHeightLow mMeets mMeetsOf Rw) := hD
        unfold fX11_stands_L98 at hf
        refine lv_iload hx hb dX11_stands_98 (lv_at hl 5 rfl) ?_
        refine lv_iload hx hb dX11_stands_100 (lv_at hl 4 rfl) ?_
        refine lv_icmp_le (tgt := 175) hx hb dX11_stands_102 (by decide) (fun c36 => ?_) (fun c36 => ?_)
        · replace hf := xsBr_t c36 hf
          have ez := hx9 _ (Option.some.inj hf).symm
          subst ez
          exact K9 y5 y6 y7 y8 hk9 H locs ls hP hD hS (lv_sub hl [0, 1, 2, 3, 4] rfl)
        · replace hf := xsBr_f c36 hf
          refine lv_aload_n hx hb dX11_stands_105 rfl (lv_at hl 0 rfl) ?_
          refine xg_X11_35 C hP dX11_stands_106 ?_
          refine lv_iload hx hb dX11_stands_109 (lv_at hl 5 rfl) ?_
          refine lv_aload_n hx hb dX11_stands_111 rfl (lv_at hl 0 rfl) ?_
          refine xg_X11_35 C hP dX11_stands_112 ?_
          refine lv_iload hx hb dX11_stands_115 (lv_at hl 5 rfl) ?_
          refine lv_iconst (v := (1 : Int32)) hx hb dX11_stands_117 (by decide) ?_
          refine lv_isub hx hb dX11_stands_118 ?_
          replace hf := xsCk_use hf
          obtain ⟨h23, hf⟩ := hf
          refine xl_mEventX C hP h23 dX11_stands_119 ?_
          replace hf := xsCk_use hf
          obtain ⟨h24, hf⟩ := hf
          refine xs_mEventX C hP hD hS h24 dX11_stands_120 (fun f25 ef25 H locs hP hD hS => ?_)
          replace hf := xsLt_use ef25 hf
          refine lv_aload_n hx hb dX11_stands_121 rfl (lv_at hl 0 rfl) ?_
          refine xg_X11_39 C hP dX11_stands_122 ?_
          refine lv_iload hx hb dX11_stands_125 (lv_at hl 5 rfl) ?_
          refine lv_aload_n hx hb dX11_stands_127 rfl (lv_at hl 0 rfl) ?_
          refine xg_X11_39 C hP dX11_stands_128 ?_
          refine lv_iload hx hb dX11_stands_131 (lv_at hl 5 rfl) ?_
          refine lv_iconst (v := (1 : Int32)) hx hb dX11_stands_133 (by decide) ?_
          refine lv_isub hx hb dX11_stands_134 ?_
          replace hf := xsCk_use hf
          obtain ⟨h26, hf⟩ := hf
          refine xl_mEventY C hP h26 dX11_stands_135 ?_
          replace hf := xsCk_use hf
          obtain ⟨h27, hf⟩ := hf
          refine xs_mEventY C hP hD hS h27 dX11_stands_136 (fun f28 ef28 H locs hP hD hS => ?_)
          replace hf := xsLt_use ef28 hf
          refine lv_aload_n hx hb dX11_stands_137 rfl (lv_at hl 0 rfl) ?_
          refine xg_X11_42 C hP dX11_stands_138 ?_
          refine lv_iload hx hb dX11_stands_141 (lv_at hl 5 rfl) ?_
          refine lv_aload_n hx hb dX11_stands_143 rfl (lv_at hl 0 rfl) ?_
          refine xg_X11_42 C hP dX11_stands_144 ?_
          refine lv_iload hx hb dX11_stands_147 (lv_at hl 5 rfl) ?_
          refine lv_iconst (v := (1 : Int32)) hx hb dX11_stands_149 (by decide) ?_
          refine lv_isub hx hb dX11_stands_150 ?_
          replace hf := xsCk_use hf
          obtain ⟨h29, hf⟩ := hf
          refine xl_mEventD C hP h29 dX11_stands_151 ?_
          replace hf := xsCk_use hf
          obtain ⟨h30, hf⟩ := hf
          refine xs_mEventD C hP hD hS h30 dX11_stands_152 (fun f31 ef31 H locs hP hD hS => ?_)
          replace hf := xsLt_use ef31 hf
          refine lv_aload_n hx hb dX11_stands_153 rfl (lv_at hl 0 rfl) ?_
          refine xg_X11_45 C hP dX11_stands_154 ?_
          refine lv_iload hx hb dX11_stands_157 (lv_at hl 5 rfl) ?_
          refine lv_aload_n hx hb dX11_stands_159 rfl (lv_at hl 0 rfl) ?_
          refine xg_X11_45 C hP dX11_stands_160 ?_
          refine lv_iload hx hb dX11_stands_163 (lv_at hl 5 rfl) ?_
          refine lv_iconst (v := (1 : Int32)) hx hb dX11_stands_165 (by decide) ?_
          refine lv_isub hx hb dX11_stands_166 ?_
          replace hf := xsCk_use hf
          obtain ⟨h32, hf⟩ := hf
          refine xl_mCrossingOf C hP h32 dX11_stands_167 ?_
          replace hf := xsCk_use hf
          obtain ⟨h33, hf⟩ := hf
          refine xs_mCrossingOf C hP hD hS h33 dX11_stands_168 (fun f34 ef34 H locs hP hD hS => ?_)
          replace hf := xsLt_use ef34 hf
          obtain ⟨x35, ex35⟩ : ∃ y : Int32, y = y4 + (-1 : Int32) := ⟨_, rfl⟩
          replace hf := xsLt_use ex35 hf
          refine lv_iinc (v := x35) (lv' := [(8, .int x35), (0, .ref (xsA X 100)), (1, .long a0), (3, .long a1), (5, .long a2), (7, .int y3)]) hx hb dX11_stands_169 hl (k := 5) rfl (by rw [ex35]; rfl) (by decide) rfl (fun ls hl => ?_)
          refine lv_goto (tgt := 98) hx hb dX11_stands_172 (by decide) ?_
          exact ih9 _ (Option.some.inj hf).symm hk9 H locs ls hP hD hS (lv_sub hl [1, 2, 3, 4, 5, 0] rfl)
      exact L9 (mEvents, mEventX, mEventY, mEventD, mCrossingOf) r9 hk90 hf H locs ls hP hD hS (lv_sub hl [1, 2, 3, 4, 5, 0] rfl)
    refine lv_icmp_ge (tgt := 92) hx hb dX11_stands_55 (by decide) (fun c44 => ?_) (fun c44 => ?_)
    · replace hf := xsBr_t c44 hf
      exact K37 hf H locs ls hP hD hS (lv_sub hl [0, 1, 2, 3, 4] rfl)
    · replace hf := xsBr_f c44 hf
      refine lv_aload_n hx hb dX11_stands_58 rfl (lv_at hl 0 rfl) ?_
      refine xg_X11_35 C hP dX11_stands_59 ?_
      refine lv_iload hx hb dX11_stands_62 (lv_at hl 4 rfl) ?_
      replace hf := xsCk_use hf
      obtain ⟨h38, hf⟩ := hf
      refine xl_mEventX C hP h38 dX11_stands_64 ?_
      refine lv_aload_n hx hb dX11_stands_65 rfl (lv_at hl 0 rfl) ?_
      refine xg_X11_39 C hP dX11_stands_66 ?_
      refine lv_iload hx hb dX11_stands_69 (lv_at hl 4 rfl) ?_
      replace hf := xsCk_use hf
      obtain ⟨h39, hf⟩ := hf
      refine xl_mEventY C hP h39 dX11_stands_71 ?_
      refine lv_aload_n hx hb dX11_stands_72 rfl (lv_at hl 0 rfl) ?_
      refine xg_X11_42 C hP dX11_stands_73 ?_
      refine lv_iload hx hb dX11_stands_76 (lv_at hl 4 rfl) ?_
      replace hf := xsCk_use hf
      obtain ⟨h40, hf⟩ := hf
      refine xl_mEventD C hP h40 dX11_stands_78 ?_
      refine lv_lload_n hx hb dX11_stands_79 rfl (lv_at hl 1 rfl) ?_
      refine lv_lload_n hx hb dX11_stands_80 rfl (lv_at hl 2 rfl) ?_
      refine lv_lload hx hb dX11_stands_81 (lv_at hl 3 rfl) ?_
      replace hf := xsBd_use hf
      obtain ⟨o41, h42, hf⟩ := hf
      refine xs_calli hS (xs_runS (As := [.long (mEventX y3.toNatClampNeg), .long (mEventY y3.toNatClampNeg), .long (mEventD y3.toNatClampNeg), .long a0, .long a1, .long a2]) C (mX11_against l  h42) w_1654 w_1655 w_115 w_1656 hd_X11_against ⟨rfl, rfl, Nat.le_of_ble_eq_true rfl, Nat.le_of_ble_eq_true rfl, Nat.zero_le _, Nat.zero_le _⟩ hP hD hS hl.1 rfl (Nat.le_of_ble_eq_true rfl) dX11_stands_83) (fun H locs hP hD hS => ?_)
      refine lv_if_ne (tgt := 92) hx hb dX11_stands_86 (by decide) (fun c43 => ?_) (fun c43 => ?_)
      · replace hf := xsBr_f c43 hf
        exact K37 hf H locs ls hP hD hS (lv_sub hl [0, 1, 2, 3, 4] rfl)
      · replace hf := xsBr_t c43 hf
        refine lv_iload hx hb dX11_stands_89 (lv_at hl 4 rfl) ?_
        have ho := Option.some.inj hf
        subst ho
        rw [hQq]
        exact xs_iret C hr hlk hP hD hS dX11_stands_91
  replace hf := xsBd_use hf
  obtain ⟨r2, hk20, hf⟩ := hf
  have L2 : ∀ (sg : Int32) (rg : Int32), xsWh (fun s2 => fX11_stands_L3 mEventX mEventY mEventD mEvents a0 a1 a2 s2) sg = some rg → (fX11_stands_J49 mEventX mEventY mEventD mEvents mCrossingOf a0 a1 a2 rg = some out → ∀ (H : Heap) (locs : List Loc) (ls : Array Slot), va_P (xsD X) vwCl (wM X mThrown mWorld mImage mDraft mEarlier mRemembered mHasImage mIsLaid mOne mTwo mShare mX mY mD mEventX mEventY mEventD mEvents mCrossingOf mBundle mEventOf mDegree mFrom mTo mCrossings mEdges mMet mUpper mLower mTape mTaped mPoint mEnd mBegin mFaultAt mFive mTold mActs mFar mViews mHullX mHullY mEndX mEndY mHeightUp mHeightLow mMeets mMeetsOf Rw) H → va_D (xsF X) (wM X mThrown mWorld mImage mDraft mEarlier mRemembered mHasImage mIsLaid mOne mTwo mShare mX mY mD mEventX mEventY mEventD mEvents mCrossingOf mBundle mEventOf mDegree mFrom mTo mCrossings mEdges mMet mUpper mLower mTape mTaped mPoint mEnd mBegin mFaultAt mFive mTold mActs mFar mViews mHullX mHullY mEndX mEndY mHeightUp mHeightLow mMeets mMeetsOf Rw) → va_S (xsF X) s.heap H locs → lv_has ls 9 [(0, .ref (xsA X 100)), (1, .long a0), (3, .long a1), (5, .long a2), (7, .int sg)] → W p l e { frames := 1, cells := 0, slots := 0, locals := 35 } s m ([.ref (xsA X 100), .long a0, .long a1, .long a2] : List Value).toArray below meth c H locs 0 0 (MQ below Qq ([.ref (xsA X 100), .long a0, .long a1, .long a2] : List Value).toArray s 0 0 (xsF X)) (F0 m 3 ls [])) := by
    refine xsWh_ind ?_
    intro sg r2 u2 hf ih2 hx2 hk2 H locs ls hP hD hS hl
    obtain ⟨y1, ey⟩ : ∃ z, z = sg := ⟨_, rfl⟩
    subst ey
    replace hf : fX11_stands_L3 mEventX mEventY mEventD mEvents a0 a1 a2 y1 = some u2 := hf
    replace hl : lv_has ls 9 [(0, .ref (xsA X 100)), (1, .long a0), (3, .long a1), (5, .long a2), (7, .int y1)] := hl
    replace hP : va_P (xsD X) vwCl (wM X mThrown mWorld mImage mDraft mEarlier mRemembered mHasImage mIsLaid mOne mTwo mShare mX mY mD mEventX mEventY mEventD mEvents mCrossingOf mBundle mEventOf mDegree mFrom mTo mCrossings mEdges mMet mUpper mLower mTape mTaped mPoint mEnd mBegin mFaultAt mFive mTold mActs mFar mViews mHullX mHullY mEndX mEndY mHeightUp mHeightLow mMeets mMeetsOf Rw) H := hP
    replace hD : va_D (xsF X) (wM X mThrown mWorld mImage mDraft mEarlier mRemembered mHasImage mIsLaid mOne mTwo mShare mX mY mD mEventX mEventY mEventD mEvents mCrossingOf mBundle mEventOf mDegree mFrom mTo mCrossings mEdges mMet mUpper mLower mTape mTaped mPoint mEnd mBegin mFaultAt mFive mTold mActs mFar mViews mHullX mHullY mEndX mEndY mHeightUp mHeightLow mMeets mMeetsOf Rw) := hD
    unfold fX11_stands_L3 at hf
    refine lv_iload hx hb dX11_stands_3 (lv_at hl 4 rfl) ?_
    refine lv_aload_n hx hb dX11_stands_5 rfl (lv_at hl 0 rfl) ?_
    refine xg_X11_193 C hP dX11_stands_6 ?_
    refine lv_icmp_ge (tgt := 49) hx hb dX11_stands_9 (by decide) (fun c52 => ?_) (fun c52 => ?_)
    · replace hf := xsBr_t c52 hf
      have ez := hx2 _ (Option.some.inj hf).symm
      subst ez
      exact K2 y1 hk2 H locs ls hP hD hS (lv_sub hl [0, 1, 2, 3, 4] rfl)
    · replace hf := xsBr_f c52 hf
      refine lv_aload_n hx hb dX11_stands_12 rfl (lv_at hl 0 rfl) ?_
      refine xg_X11_35 C hP dX11_stands_13 ?_
      refine lv_iload hx hb dX11_stands_16 (lv_at hl 4 rfl) ?_
      replace hf := xsCk_use hf
      obtain ⟨h45, hf⟩ := hf
      refine xl_mEventX C hP h45 dX11_stands_18 ?_
      refine lv_aload_n hx hb dX11_stands_19 rfl (lv_at hl 0 rfl) ?_
      refine xg_X11_39 C hP dX11_stands_20 ?_
      refine lv_iload hx hb dX11_stands_23 (lv_at hl 4 rfl) ?_
      replace hf := xsCk_use hf
      obtain ⟨h46, hf⟩ := hf
      refine xl_mEventY C hP h46 dX11_stands_25 ?_
      refine lv_aload_n hx hb dX11_stands_26 rfl (lv_at hl 0 rfl) ?_
      refine xg_X11_42 C hP dX11_stands_27 ?_
      refine lv_iload hx hb dX11_stands_30 (lv_at hl 4 rfl) ?_
      replace hf := xsCk_use hf
      obtain ⟨h47, hf⟩ := hf
      refine xl_mEventD C hP h47 dX11_stands_32 ?_
      refine lv_lload_n hx hb dX11_stands_33 rfl (lv_at hl 1 rfl) ?_
      refine lv_lload_n hx hb dX11_stands_34 rfl (lv_at hl 2 rfl) ?_
      refine lv_lload hx hb dX11_stands_35 (lv_at hl 3 rfl) ?_
      replace hf := xsBd_use hf
      obtain ⟨o48, h49, hf⟩ := hf
      refine xs_calli hS (xs_runS (As := [.long (mEventX y1.toNatClampNeg), .long (mEventY y1.toNatClampNeg), .long (mEventD y1.toNatClampNeg), .long a0, .long a1, .long a2]) C (mX11_against l  h49) w_1654 w_1655 w_115 w_1656 hd_X11_against ⟨rfl, rfl, Nat.le_of_ble_eq_true rfl, Nat.le_of_ble_eq_true rfl, Nat.zero_le _, Nat.zero_le _⟩ hP hD hS hl.1 rfl (Nat.le_of_ble_eq_true rfl) dX11_stands_37) (fun H locs hP hD hS => ?_)
      refine lv_if_ge (tgt := 49) hx hb dX11_stands_40 (by decide) (fun c51 => ?_) (fun c51 => ?_)
      · replace hf := xsBr_t c51 hf
        have ez := hx2 _ (Option.some.inj hf).symm
        subst ez
        exact K2 y1 hk2 H locs ls hP hD hS (lv_sub hl [0, 1, 2, 3, 4] rfl)
      · replace hf := xsBr_f c51 hf
        obtain ⟨x50, ex50⟩ : ∃ y : Int32, y = y1 + (1 : Int32) := ⟨_, rfl⟩
        replace hf := xsLt_use ex50 hf
        refine lv_iinc (v := x50) (lv' := [(7, .int x50), (0, .ref (xsA X 100)), (1, .long a0), (3, .long a1), (5, .long a2)]) hx hb dX11_stands_43 hl (k := 4) rfl (by rw [ex50]; rfl) (by decide) rfl (fun ls hl => ?_)
        refine lv_goto (tgt := 3) hx hb dX11_stands_46 (by decide) ?_
        exact ih2 _ (Option.some.inj hf).symm hk2 H locs ls hP hD hS (lv_sub hl [1, 2, 3, 4, 0] rfl)
  exact L2 (0 : Int32) r2 hk20 hf H locs ls hP hD hS (lv_sub hl [1, 2, 3, 4, 0] rfl)
set_option maxRecDepth 100000 in
set_option maxHeartbeats 8000000 in
theorem mX11_isOn_v1 (l : Launch) {X : xsX} {mThrown mRemembered mHasImage mIsLaid mEvents mCrossings mEdges mTaped mPoint mEnd mBegin mFaultAt mActs : Int32} {mWorld mImage mDraft mEarlier mOne mTwo mShare mCrossingOf mBundle mEventOf mDegree mFrom mTo mMet mTape mFive mTold mFar mViews mHullX mHullY mEndX mEndY mMeets mMeetsOf : Nat → Int32} {mX mY mD mHeightUp mHeightLow : Int64} {mEventX mEventY mEventD mUpper mLower : Nat → Int64} {Rw : va_W} {a1 : Int64} {a2 : Int64} {a3 : Int64} {out : Int32} (hf : fX11_isOn_v1 mOne a1 a2 a3 = some out) : Met l yX11_isOn (xsWs yX11_isOn cX11_isOn 11 (some .boolean)) { frames := 1, cells := 0, slots := 0, locals := 25 } (xsP X (wM X mThrown mWorld mImage mDraft mEarlier mRemembered mHasImage mIsLaid mOne mTwo mShare mX mY mD mEventX mEventY mEventD mEvents mCrossingOf mBundle mEventOf mDegree mFrom mTo mCrossings mEdges mMet mUpper mLower mTape mTaped mPoint mEnd mBegin mFaultAt mFive mTold mActs mFar mViews mHullX mHullY mEndX mEndY mHeightUp mHeightLow mMeets mMeetsOf Rw) [.ref (xsA X 105), .long a1, .long a2, .long a3]) (xsQi X out (wM X mThrown mWorld mImage mDraft mEarlier mRemembered mHasImage mIsLaid mOne mTwo mShare mX mY mD mEventX mEventY mEventD mEvents mCrossingOf mBundle mEventOf mDegree mFrom mTo mCrossings mEdges mMet mUpper mLower mTape mTaped mPoint mEnd mBegin mFaultAt mFive mTold mActs mFar mViews mHullX mHullY mEndX mEndY mHeightUp mHeightLow mMeets mMeetsOf Rw)) 0 0 (xsF X) := by
  refine xs_meth RX11 (by decide) rfl (Nat.le_of_ble_eq_true rfl) ?_
  intro p e s m below meth c ls H locs C hP hD hS hr hlk hl
  have hx := C.1
  have hb := C.2.1
  have hl : lv_has ls 11 [(0, .ref (xsA X 105)), (1, .long a1), (3, .long a2), (5, .long a3)] := hl
  obtain ⟨Qq, hQq⟩ : ∃ Qq, Qq = xsQi X out (wM X mThrown mWorld mImage mDraft mEarlier mRemembered mHasImage mIsLaid mOne mTwo mShare mX mY mD mEventX mEventY mEventD mEvents mCrossingOf mBundle mEventOf mDegree mFrom mTo mCrossings mEdges mMet mUpper mLower mTape mTaped mPoint mEnd mBegin mFaultAt mFive mTold mActs mFar mViews mHullX mHullY mEndX mEndY mHeightUp mHeightLow mMeets mMeetsOf Rw) := ⟨_, rfl⟩
  rw [← hQq]
  unfold fX11_isOn_v1 at hf
  refine lv_aload_n hx hb dX11_isOn_0 rfl (lv_at hl 0 rfl) ?_
  refine lv_iconst (v := (2 : Int32)) hx hb dX11_isOn_1 (by decide) ?_
  replace hf := xsCk_use hf
  obtain ⟨h1, hf⟩ := hf
  refine xl_mOne C hP h1 dX11_isOn_2 ?_
  refine lv_aload_n hx hb dX11_isOn_3 rfl (lv_at hl 0 rfl) ?_
  refine lv_iconst (v := (0 : Int32)) hx hb dX11_isOn_4 (by decide) ?_
  replace hf := xsCk_use hf
  obtain ⟨h2, hf⟩ := hf
  refine xl_mOne C hP h2 dX11_isOn_5 ?_
  refine lv_isub hx hb dX11_isOn_6 ?_
  refine lv_i2l hx hb dX11_isOn_7 rfl ?_
  refine lv_topl (fun x3 ex3 => ?_)
  replace hf := xsLt_use ex3 hf
  refine lv_lstore (lv' := [(7, .long x3), (0, .ref (xsA X 105)), (1, .long a1), (3, .long a2), (5, .long a3)]) hx hb dX11_isOn_8 hl (by decide) rfl (fun ls hl => ?_)
  refine lv_aload_n hx hb dX11_isOn_10 rfl (lv_at hl 1 rfl) ?_
  refine lv_iconst (v := (3 : Int32)) hx hb dX11_isOn_11 (by decide) ?_
  replace hf := xsCk_use hf
  obtain ⟨h4, hf⟩ := hf
  refine xl_mOne C hP h4 dX11_isOn_12 ?_
  refine lv_aload_n hx hb dX11_isOn_13 rfl (lv_at hl 1 rfl) ?_
  refine lv_iconst (v := (1 : Int32)) hx hb dX11_isOn_14 (by decide) ?_
  replace hf := xsCk_use hf
  obtain ⟨h5, hf⟩ := hf
  refine xl_mOne C hP h5 dX11_isOn_15 ?_
  refine lv_isub hx hb dX11_isOn_16 ?_
  refine lv_i2l hx hb dX11_isOn_17 rfl ?_
  refine lv_topl (fun x6 ex6 => ?_)
  replace hf := xsLt_use ex6 hf
  refine lv_lstore (lv' := [(9, .long x6), (7, .long x3), (0, .ref (xsA X 105)), (1, .long a1), (3, .long a2), (5, .long a3)]) hx hb dX11_isOn_18 hl (by decide) rfl (fun ls hl => ?_)
  refine lv_lload_n hx hb dX11_isOn_20 rfl (lv_at hl 3 rfl) ?_
  refine lv_aload_n hx hb dX11_isOn_21 rfl (lv_at hl 2 rfl) ?_
  refine lv_iconst (v := (0 : Int32)) hx hb dX11_isOn_22 (by decide) ?_
  replace hf := xsCk_use hf
  obtain ⟨h7, hf⟩ := hf
  refine xl_mOne C hP h7 dX11_isOn_23 ?_
  refine lv_i2l hx hb dX11_isOn_24 rfl ?_
  refine lv_lload hx hb dX11_isOn_25 (lv_at hl 5 rfl) ?_
  refine lv_lmul hx hb dX11_isOn_27 ?_
  refine lv_lsub hx hb dX11_isOn_28 ?_
  refine lv_lload hx hb dX11_isOn_29 (lv_at hl 0 rfl) ?_
  refine lv_lmul hx hb dX11_isOn_31 ?_
  refine lv_lload_n hx hb dX11_isOn_32 rfl (lv_at hl 4 rfl) ?_
  refine lv_aload_n hx hb dX11_isOn_33 rfl (lv_at hl 2 rfl) ?_
  refine lv_iconst (v := (1 : Int32)) hx hb dX11_isOn_34 (by decide) ?_
  replace hf := xsCk_use hf
  obtain ⟨h8, hf⟩ := hf
  refine xl_mOne C hP h8 dX11_isOn_35 ?_
  refine lv_i2l hx hb dX11_isOn_36 rfl ?_
  refine lv_lload hx hb dX11_isOn_37 (lv_at hl 5 rfl) ?_
  refine lv_lmul hx hb dX11_isOn_39 ?_
  refine lv_lsub hx hb dX11_isOn_40 ?_
  refine lv_lload hx hb dX11_isOn_41 (lv_at hl 1 rfl) ?_
  refine lv_lmul hx hb dX11_isOn_43 ?_
  refine xs_lcmp_eq (tgt := 50) C dX11_isOn_44 dX11_isOn_45 (by decide) (fun c21 => ?_) (fun c21 => ?_)
  · replace hf := xsBr_t c21 hf
    refine lv_lload_n hx hb dX11_isOn_50 rfl (lv_at hl 3 rfl) ?_
    refine lv_aload_n hx hb dX11_isOn_51 rfl (lv_at hl 2 rfl) ?_
    refine lv_iconst (v := (0 : Int32)) hx hb dX11_isOn_52 (by decide) ?_
    replace hf := xsCk_use hf
    obtain ⟨h9, hf⟩ := hf
    refine xl_mOne C hP h9 dX11_isOn_53 ?_
    refine lv_i2l hx hb dX11_isOn_54 rfl ?_
    refine lv_lload hx hb dX11_isOn_55 (lv_at hl 5 rfl) ?_
    refine lv_lmul hx hb dX11_isOn_57 ?_
    refine lv_aload_n hx hb dX11_isOn_58 rfl (lv_at hl 2 rfl) ?_
    refine lv_iconst (v := (2 : Int32)) hx hb dX11_isOn_59 (by decide) ?_
    replace hf := xsCk_use hf
    obtain ⟨h10, hf⟩ := hf
    refine xl_mOne C hP h10 dX11_isOn_60 ?_
    refine lv_i2l hx hb dX11_isOn_61 rfl ?_
    refine lv_lload hx hb dX11_isOn_62 (lv_at hl 5 rfl) ?_
    refine lv_lmul hx hb dX11_isOn_64 ?_
    replace hf := xsBd_use hf
    obtain ⟨o11, h12, hf⟩ := hf
    refine xs_calli hS (xs_runS (As := [.long a1, .long (((mOne (0 : Int32).toNatClampNeg).toInt64) * a3), .long (((mOne (2 : Int32).toNatClampNeg).toInt64) * a3)]) C (mX11_in l  h12) w_1573 w_1574 w_115 w_1575 hd_X11_in ⟨rfl, rfl, Nat.le_of_ble_eq_true rfl, Nat.le_of_ble_eq_true rfl, Nat.zero_le _, Nat.zero_le _⟩ hP hD hS hl.1 rfl (Nat.le_of_ble_eq_true rfl) dX11_isOn_65) (fun H locs hP hD hS => ?_)
    refine lv_if_eq (tgt := 108) hx hb dX11_isOn_68 (by decide) (fun c20 => ?_) (fun c20 => ?_)
    · replace hf := xsBr_t c20 hf
      refine lv_iconst (v := (0 : Int32)) hx hb dX11_isOn_108 (by decide) ?_
      have ho := Option.some.inj hf
      subst ho
      rw [hQq]
      exact xs_zret C hr hlk xsB_0 hP hD hS dX11_isOn_109
    · replace hf := xsBr_f c20 hf
      refine lv_lload_n hx hb dX11_isOn_71 rfl (lv_at hl 4 rfl) ?_
      refine lv_aload_n hx hb dX11_isOn_72 rfl (lv_at hl 2 rfl) ?_
      refine lv_iconst (v := (1 : Int32)) hx hb dX11_isOn_73 (by decide) ?_
      replace hf := xsCk_use hf
      obtain ⟨h13, hf⟩ := hf
      refine xl_mOne C hP h13 dX11_isOn_74 ?_
      refine lv_aload_n hx hb dX11_isOn_75 rfl (lv_at hl 2 rfl) ?_
      refine lv_iconst (v := (3 : Int32)) hx hb dX11_isOn_76 (by decide) ?_
      replace hf := xsCk_use hf
      obtain ⟨h14, hf⟩ := hf
      refine xl_mOne C hP h14 dX11_isOn_77 ?_
      refine va_mmin hx hb (C.2.2.1.trans hl.1.symm) C.2.2.2.1 (xs_kts C _ w_1675) (xs_kts C _ w_525) (xs_kts C _ w_125) (xs_kts C _ w_526) (Nat.le_of_ble_eq_true rfl) (Nat.le_of_ble_eq_true rfl) (Nat.zero_le _) (Nat.zero_le _) dX11_isOn_78 ?_
      refine lv_i2l hx hb dX11_isOn_81 rfl ?_
      refine lv_lload hx hb dX11_isOn_82 (lv_at hl 5 rfl) ?_
      refine lv_lmul hx hb dX11_isOn_84 ?_
      refine lv_aload_n hx hb dX11_isOn_85 rfl (lv_at hl 2 rfl) ?_
      refine lv_iconst (v := (1 : Int32)) hx hb dX11_isOn_86 (by decide) ?_
      replace hf := xsCk_use hf
      obtain ⟨h15, hf⟩ := hf
      refine xl_mOne C hP h15 dX11_isOn_87 ?_
      refine lv_aload_n hx hb dX11_isOn_88 rfl (lv_at hl 2 rfl) ?_
      refine lv_iconst (v := (3 : Int32)) hx hb dX11_isOn_89 (by decide) ?_
      replace hf := xsCk_use hf
      obtain ⟨h16, hf⟩ := hf
      refine xl_mOne C hP h16 dX11_isOn_90 ?_
      refine va_mmax hx hb (C.2.2.1.trans hl.1.symm) C.2.2.2.1 (xs_kts C _ w_1676) (xs_kts C _ w_697) (xs_kts C _ w_125) (xs_kts C _ w_698) (Nat.le_of_ble_eq_true rfl) (Nat.le_of_ble_eq_true rfl) (Nat.zero_le _) (Nat.zero_le _) dX11_isOn_91 ?_
      refine lv_i2l hx hb dX11_isOn_94 rfl ?_
      refine lv_lload hx hb dX11_isOn_95 (lv_at hl 5 rfl) ?_
      refine lv_lmul hx hb dX11_isOn_97 ?_
      replace hf := xsBd_use hf
      obtain ⟨o17, h18, hf⟩ := hf
      refine xs_calli hS (xs_runS (As := [.long a2, .long (((if (mOne (3 : Int32).toNatClampNeg) < (mOne (1 : Int32).toNatClampNeg) then (mOne (3 : Int32).toNatClampNeg) else (mOne (1 : Int32).toNatClampNeg)).toInt64) * a3), .long (((if (mOne (1 : Int32).toNatClampNeg) < (mOne (3 : Int32).toNatClampNeg) then (mOne (3 : Int32).toNatClampNeg) else (mOne (1 : Int32).toNatClampNeg)).toInt64) * a3)]) C (mX11_in l  h18) w_1573 w_1574 w_115 w_1575 hd_X11_in ⟨rfl, rfl, Nat.le_of_ble_eq_true rfl, Nat.le_of_ble_eq_true rfl, Nat.zero_le _, Nat.zero_le _⟩ hP hD hS hl.1 rfl (Nat.le_of_ble_eq_true rfl) dX11_isOn_98) (fun H locs hP hD hS => ?_)
      refine lv_if_eq (tgt := 108) hx hb dX11_isOn_101 (by decide) (fun c19 => ?_) (fun c19 => ?_)
      · replace hf := xsBr_t c19 hf
        refine lv_iconst (v := (0 : Int32)) hx hb dX11_isOn_108 (by decide) ?_
        have ho := Option.some.inj hf
        subst ho
        rw [hQq]
        exact xs_zret C hr hlk xsB_0 hP hD hS dX11_isOn_109
      · replace hf := xsBr_f c19 hf
        refine lv_iconst (v := (1 : Int32)) hx hb dX11_isOn_104 (by decide) ?_
        refine lv_goto (tgt := 109) hx hb dX11_isOn_105 (by decide) ?_
        have ho := Option.some.inj hf
        subst ho
        rw [hQq]
        exact xs_zret C hr hlk xsB_1 hP hD hS dX11_isOn_109
  · replace hf := xsBr_f c21 hf
    refine lv_iconst (v := (0 : Int32)) hx hb dX11_isOn_48 (by decide) ?_
    have ho := Option.some.inj hf
    subst ho
    rw [hQq]
    exact xs_zret C hr hlk xsB_0 hP hD hS dX11_isOn_49
set_option maxRecDepth 100000 in
set_option maxHeartbeats 8000000 in
theorem mX11_has (l : Launch) {X : xsX} {mThrown mRemembered mHasImage mIsLaid mEvents mCrossings mEdges mTaped mPoint mEnd mBegin mFaultAt mActs : Int32} {mWorld mImage mDraft mEarlier mOne mTwo mShare mCrossingOf mBundle mEventOf mDegree mFrom mTo mMet mTape mFive mTold mFar mViews mHullX mHullY mEndX mEndY mMeets mMeetsOf : Nat → Int32} {mX mY mD mHeightUp mHeightLow : Int64} {mEventX mEventY mEventD mUpper mLower : Nat → Int64} {Rw : va_W} {a0 : Int32} {a1 : Int32} {out : Int32 × (Nat → Int32)} (hf : fX11_has mWorld mOne mEventX mEventY mEventD a0 a1 = some out) : Met l yX11_has (xsWs yX11_has cX11_has 3 (some .boolean)) { frames := 2, cells := 0, slots := 0, locals := 55 } (xsP X (wM X mThrown mWorld mImage mDraft mEarlier mRemembered mHasImage mIsLaid mOne mTwo mShare mX mY mD mEventX mEventY mEventD mEvents mCrossingOf mBundle mEventOf mDegree mFrom mTo mCrossings mEdges mMet mUpper mLower mTape mTaped mPoint mEnd mBegin mFaultAt mFive mTold mActs mFar mViews mHullX mHullY mEndX mEndY mHeightUp mHeightLow mMeets mMeetsOf Rw) [.ref (xsA X 100), .int a0, .int a1]) (xsQi X out.1 (wM X mThrown mWorld mImage mDraft mEarlier mRemembered mHasImage mIsLaid out.2 mTwo mShare mX mY mD mEventX mEventY mEventD mEvents mCrossingOf mBundle mEventOf mDegree mFrom mTo mCrossings mEdges mMet mUpper mLower mTape mTaped mPoint mEnd mBegin mFaultAt mFive mTold mActs mFar mViews mHullX mHullY mEndX mEndY mHeightUp mHeightLow mMeets mMeetsOf Rw)) 0 0 (xsF X) := by
  refine xs_meth RX11 (by decide) rfl (Nat.le_of_ble_eq_true rfl) ?_
  intro p e s m below meth c ls H locs C hP hD hS hr hlk hl
  have hx := C.1
  have hb := C.2.1
  have hl : lv_has ls 3 [(0, .ref (xsA X 100)), (1, .int a0), (2, .int a1)] := hl
  obtain ⟨Qq, hQq⟩ : ∃ Qq, Qq = xsQi X out.1 (wM X mThrown mWorld mImage mDraft mEarlier mRemembered mHasImage mIsLaid out.2 mTwo mShare mX mY mD mEventX mEventY mEventD mEvents mCrossingOf mBundle mEventOf mDegree mFrom mTo mCrossings mEdges mMet mUpper mLower mTape mTaped mPoint mEnd mBegin mFaultAt mFive mTold mActs mFar mViews mHullX mHullY mEndX mEndY mHeightUp mHeightLow mMeets mMeetsOf Rw) := ⟨_, rfl⟩
  rw [← hQq]
  unfold fX11_has at hf
  refine lv_aload_n hx hb dX11_has_0 rfl (lv_at hl 0 rfl) ?_
  refine lv_aload_n hx hb dX11_has_1 rfl (lv_at hl 0 rfl) ?_
  refine xg_X11_26 C hP dX11_has_2 ?_
  refine lv_iload_n hx hb dX11_has_5 rfl (lv_at hl 1 rfl) ?_
  replace hf := xsBd_use hf
  obtain ⟨o1, h2, hf⟩ := hf
  refine xs_callv hS (xs_runV (As := [.ref (xsA X 105), .int a0]) C (mX11_takes l  h2) w_1661 w_1663 w_59 w_115 w_1664 hd_X11_takes ⟨rfl, rfl, Nat.le_of_ble_eq_true rfl, Nat.le_of_ble_eq_true rfl, Nat.zero_le _, Nat.zero_le _⟩ hP hD hS lk_X11 rfl hl.1 rfl (Nat.le_of_ble_eq_true rfl) dX11_has_6) (fun H locs hP hD hS => ?_)
  refine lv_aload_n hx hb dX11_has_9 rfl (lv_at hl 0 rfl) ?_
  refine xg_X11_26 C hP dX11_has_10 ?_
  refine lv_aload_n hx hb dX11_has_13 rfl (lv_at hl 0 rfl) ?_
  refine xg_X11_35 C hP dX11_has_14 ?_
  refine lv_iload_n hx hb dX11_has_17 rfl (lv_at hl 2 rfl) ?_
  replace hf := xsCk_use hf
  obtain ⟨h3, hf⟩ := hf
  refine xl_mEventX C hP h3 dX11_has_18 ?_
  refine lv_aload_n hx hb dX11_has_19 rfl (lv_at hl 0 rfl) ?_
  refine xg_X11_39 C hP dX11_has_20 ?_
  refine lv_iload_n hx hb dX11_has_23 rfl (lv_at hl 2 rfl) ?_
  replace hf := xsCk_use hf
  obtain ⟨h4, hf⟩ := hf
  refine xl_mEventY C hP h4 dX11_has_24 ?_
  refine lv_aload_n hx hb dX11_has_25 rfl (lv_at hl 0 rfl) ?_
  refine xg_X11_42 C hP dX11_has_26 ?_
  refine lv_iload_n hx hb dX11_has_29 rfl (lv_at hl 2 rfl) ?_
  replace hf := xsCk_use hf
  obtain ⟨h5, hf⟩ := hf
  refine xl_mEventD C hP h5 dX11_has_30 ?_
  replace hf := xsBd_use hf
  obtain ⟨o6, h7, hf⟩ := hf
  refine xs_calli hS (xs_runS (As := [.ref (xsA X 105), .long (mEventX a1.toNatClampNeg), .long (mEventY a1.toNatClampNeg), .long (mEventD a1.toNatClampNeg)]) C (mX11_isOn_v1 l  h7) w_1672 w_1673 w_115 w_1674 hd_X11_isOn ⟨rfl, rfl, Nat.le_of_ble_eq_true rfl, Nat.le_of_ble_eq_true rfl, Nat.zero_le _, Nat.zero_le _⟩ hP hD hS hl.1 rfl (Nat.le_of_ble_eq_true rfl) dX11_has_31) (fun H locs hP hD hS => ?_)
  replace hf := xsCk_use hf
  obtain ⟨h8, hf⟩ := hf
  have ho := Option.some.inj hf
  subst ho
  rw [hQq]
  exact xs_zret C hr hlk h8 hP hD hS dX11_has_34
set_option maxRecDepth 100000 in
set_option maxHeartbeats 8000000 in
theorem mX11_isEdge (l : Launch) {X : xsX} {mThrown mRemembered mHasImage mIsLaid mEvents mCrossings mEdges mTaped mPoint mEnd mBegin mFaultAt mActs : Int32} {mWorld mImage mDraft mEarlier mOne mTwo mShare mCrossingOf mBundle mEventOf mDegree mFrom mTo mMet mTape mFive mTold mFar mViews mHullX mHullY mEndX mEndY mMeets mMeetsOf : Nat → Int32} {mX mY mD mHeightUp mHeightLow : Int64} {mEventX mEventY mEventD mUpper mLower : Nat → Int64} {Rw : va_W} {a0 : Int32} {a1 : Int32} {out : Int32} (hf : fX11_isEdge mFrom mTo mEdges a0 a1 = some out) : Met l yX11_isEdge (xsWs yX11_isEdge cX11_isEdge 5 (some .boolean)) { frames := 0, cells := 0, slots := 0, locals := 0 } (xsP X (wM X mThrown mWorld mImage mDraft mEarlier mRemembered mHasImage mIsLaid mOne mTwo mShare mX mY mD mEventX mEventY mEventD mEvents mCrossingOf mBundle mEventOf mDegree mFrom mTo mCrossings mEdges mMet mUpper mLower mTape mTaped mPoint mEnd mBegin mFaultAt mFive mTold mActs mFar mViews mHullX mHullY mEndX mEndY mHeightUp mHeightLow mMeets mMeetsOf Rw) [.ref (xsA X 100), .int a0, .int a1]) (xsQi X out (wM X mThrown mWorld mImage mDraft mEarlier mRemembered mHasImage mIsLaid mOne mTwo mShare mX mY mD mEventX mEventY mEventD mEvents mCrossingOf mBundle mEventOf mDegree mFrom mTo mCrossings mEdges mMet mUpper mLower mTape mTaped mPoint mEnd mBegin mFaultAt mFive mTold mActs mFar mViews mHullX mHullY mEndX mEndY mHeightUp mHeightLow mMeets mMeetsOf Rw)) 0 0 (xsF X) := by
  refine xs_meth RX11 (by decide) rfl (Nat.le_of_ble_eq_true rfl) ?_
  intro p e s m below meth c ls H locs C hP hD hS hr hlk hl
  have hx := C.1
  have hb := C.2.1
  have hl : lv_has ls 5 [(0, .ref (xsA X 100)), (1, .int a0), (2, .int a1)] := hl
  obtain ⟨Qq, hQq⟩ : ∃ Qq, Qq = xsQi X out (wM X mThrown mWorld mImage mDraft mEarlier mRemembered mHasImage mIsLaid mOne mTwo mShare mX mY mD mEventX mEventY mEventD mEvents mCrossingOf mBundle mEventOf mDegree mFrom mTo mCrossings mEdges mMet mUpper mLower mTape mTaped mPoint mEnd mBegin mFaultAt mFive mTold mActs mFar mViews mHullX mHullY mEndX mEndY mHeightUp mHeightLow mMeets mMeetsOf Rw) := ⟨_, rfl⟩
  rw [← hQq]
  unfold fX11_isEdge at hf
  refine lv_iconst (v := (0 : Int32)) hx hb dX11_isEdge_0 (by decide) ?_
  refine lv_istore_n (lv' := [(3, .int (0 : Int32)), (0, .ref (xsA X 100)), (1, .int a0), (2, .int a1)]) hx hb dX11_isEdge_1 rfl hl (by decide) rfl (fun ls hl => ?_)
  refine lv_iconst (v := (0 : Int32)) hx hb dX11_isEdge_2 (by decide) ?_
  refine lv_istore (lv' := [(4, .int (0 : Int32)), (3, .int (0 : Int32)), (0, .ref (xsA X 100)), (1, .int a0), (2, .int a1)]) hx hb dX11_isEdge_3 hl (by decide) rfl (fun ls hl => ?_)
  have K3 : ∀ (y4 : Int32) (hf : fX11_isEdge_J52 y4 = some out) (H : Heap) (locs : List Loc) (ls : Array Slot), va_P (xsD X) vwCl (wM X mThrown mWorld mImage mDraft mEarlier mRemembered mHasImage mIsLaid mOne mTwo mShare mX mY mD mEventX mEventY mEventD mEvents mCrossingOf mBundle mEventOf mDegree mFrom mTo mCrossings mEdges mMet mUpper mLower mTape mTaped mPoint mEnd mBegin mFaultAt mFive mTold mActs mFar mViews mHullX mHullY mEndX mEndY mHeightUp mHeightLow mMeets mMeetsOf Rw) H → va_D (xsF X) (wM X mThrown mWorld mImage mDraft mEarlier mRemembered mHasImage mIsLaid mOne mTwo mShare mX mY mD mEventX mEventY mEventD mEvents mCrossingOf mBundle mEventOf mDegree mFrom mTo mCrossings mEdges mMet mUpper mLower mTape mTaped mPoint mEnd mBegin mFaultAt mFive mTold mActs mFar mViews mHullX mHullY mEndX mEndY mHeightUp mHeightLow mMeets mMeetsOf Rw) → va_S (xsF X) s.heap H locs → lv_has ls 5 [(3, .int y4)] → W p l e { frames := 0, cells := 0, slots := 0, locals := 0 } s m ([.ref (xsA X 100), .int a0, .int a1] : List Value).toArray below meth c H locs 0 0 (MQ below Qq ([.ref (xsA X 100), .int a0, .int a1] : List Value).toArray s 0 0 (xsF X)) (F0 m 52 ls []) := by
    intro y4 hf H locs ls hP hD hS hl
    unfold fX11_isEdge_J52 at hf
    refine lv_iload_n hx hb dX11_isEdge_52 rfl (lv_at hl 0 rfl) ?_
    replace hf := xsCk_use hf
    obtain ⟨h5, hf⟩ := hf
    have ho := Option.some.inj hf
    subst ho
    rw [hQq]
    exact xs_zret C hr hlk h5 hP hD hS dX11_isEdge_53
  replace hf := xsBd_use hf
  obtain ⟨r3, hk30, hf⟩ := hf
  have L3 : ∀ (sg : Int32 × Int32) (rg : Int32), xsWh (fun s3 => fX11_isEdge_L5 mFrom mTo mEdges a0 a1 s3.1 s3.2) sg = some rg → (fX11_isEdge_J52 rg = some out → ∀ (H : Heap) (locs : List Loc) (ls : Array Slot), va_P (xsD X) vwCl (wM X mThrown mWorld mImage mDraft mEarlier mRemembered mHasImage mIsLaid mOne mTwo mShare mX mY mD mEventX mEventY mEventD mEvents mCrossingOf mBundle mEventOf mDegree mFrom mTo mCrossings mEdges mMet mUpper mLower mTape mTaped mPoint mEnd mBegin mFaultAt mFive mTold mActs mFar mViews mHullX mHullY mEndX mEndY mHeightUp mHeightLow mMeets mMeetsOf Rw) H → va_D (xsF X) (wM X mThrown mWorld mImage mDraft mEarlier mRemembered mHasImage mIsLaid mOne mTwo mShare mX mY mD mEventX mEventY mEventD mEvents mCrossingOf mBundle mEventOf mDegree mFrom mTo mCrossings mEdges mMet mUpper mLower mTape mTaped mPoint mEnd mBegin mFaultAt mFive mTold mActs mFar mViews mHullX mHullY mEndX mEndY mHeightUp mHeightLow mMeets mMeetsOf Rw) → va_S (xsF X) s.heap H locs → lv_has ls 5 [(0, .ref (xsA X 100)), (1, .int a0), (2, .int a1), (3, .int sg.1), (4, .int sg.2)] → W p l e { frames := 0, cells := 0, slots := 0, locals := 0 } s m ([.ref (xsA X 100), .int a0, .int a1] : List Value).toArray below meth c H locs 0 0 (MQ below Qq ([.ref (xsA X 100), .int a0, .int a1] : List Value).toArray s 0 0 (xsF X)) (F0 m 5 ls [])) := by
    refine xsWh_ind ?_
    intro sg r3 u3 hf ih3 hx3 hk3 H locs ls hP hD hS hl
    obtain ⟨y1, y2⟩ := sg
    replace hf : fX11_isEdge_L5 mFrom mTo mEdges a0 a1 y1 y2 = some u3 := hf
    replace hl : lv_has ls 5 [(0, .ref (xsA X 100)), (1, .int a0), (2, .int a1), (3, .int y1), (4, .int y2)] := hl
    replace hP : va_P (xsD X) vwCl (wM X mThrown mWorld mImage mDraft mEarlier mRemembered mHasImage mIsLaid mOne mTwo mShare mX mY mD mEventX mEventY mEventD mEvents mCrossingOf mBundle mEventOf mDegree mFrom mTo mCrossings mEdges mMet mUpper mLower mTape mTaped mPoint mEnd mBegin mFaultAt mFive mTold mActs mFar mViews mHullX mHullY mEndX mEndY mHeightUp mHeightLow mMeets mMeetsOf Rw) H := hP
    replace hD : va_D (xsF X) (wM X mThrown mWorld mImage mDraft mEarlier mRemembered mHasImage mIsLaid mOne mTwo mShare mX mY mD mEventX mEventY mEventD mEvents mCrossingOf mBundle mEventOf mDegree mFrom mTo mCrossings mEdges mMet mUpper mLower mTape mTaped mPoint mEnd mBegin mFaultAt mFive mTold mActs mFar mViews mHullX mHullY mEndX mEndY mHeightUp mHeightLow mMeets mMeetsOf Rw) := hD
    unfold fX11_isEdge_L5 at hf
    refine lv_iload hx hb dX11_isEdge_5 (lv_at hl 4 rfl) ?_
    refine lv_aload_n hx hb dX11_isEdge_7 rfl (lv_at hl 0 rfl) ?_
    refine xg_X11_213 C hP dX11_isEdge_8 ?_
    refine lv_icmp_ge (tgt := 52) hx hb dX11_isEdge_11 (by decide) (fun c16 => ?_) (fun c16 => ?_)
    · replace hf := xsBr_t c16 hf
      have ez := hx3 _ (Option.some.inj hf).symm
      subst ez
      exact K3 y1 hk3 H locs ls hP hD hS (lv_sub hl [3] rfl)
    · replace hf := xsBr_f c16 hf
      refine lv_iload_n hx hb dX11_isEdge_14 rfl (lv_at hl 3 rfl) ?_
      refine lv_if_ne (tgt := 52) hx hb dX11_isEdge_15 (by decide) (fun c15 => ?_) (fun c15 => ?_)
      · replace hf := xsBr_f c15 hf
        have ez := hx3 _ (Option.some.inj hf).symm
        subst ez
        exact K3 y1 hk3 H locs ls hP hD hS (lv_sub hl [3] rfl)
      · replace hf := xsBr_t c15 hf
        refine lv_aload_n hx hb dX11_isEdge_18 rfl (lv_at hl 0 rfl) ?_
        refine xg_X11_57 C hP dX11_isEdge_19 ?_
        refine lv_iload hx hb dX11_isEdge_22 (lv_at hl 4 rfl) ?_
        replace hf := xsCk_use hf
        obtain ⟨h6, hf⟩ := hf
        refine xl_mFrom C hP h6 dX11_isEdge_24 ?_
        refine lv_iload_n hx hb dX11_isEdge_25 rfl (lv_at hl 1 rfl) ?_
        have K11 : ∀ (y7 : Int32) (hf : fX11_isEdge_J45 y2 y7 = some u3) (H : Heap) (locs : List Loc) (ls : Array Slot), va_P (xsD X) vwCl (wM X mThrown mWorld mImage mDraft mEarlier mRemembered mHasImage mIsLaid mOne mTwo mShare mX mY mD mEventX mEventY mEventD mEvents mCrossingOf mBundle mEventOf mDegree mFrom mTo mCrossings mEdges mMet mUpper mLower mTape mTaped mPoint mEnd mBegin mFaultAt mFive mTold mActs mFar mViews mHullX mHullY mEndX mEndY mHeightUp mHeightLow mMeets mMeetsOf Rw) H → va_D (xsF X) (wM X mThrown mWorld mImage mDraft mEarlier mRemembered mHasImage mIsLaid mOne mTwo mShare mX mY mD mEventX mEventY mEventD mEvents mCrossingOf mBundle mEventOf mDegree mFrom mTo mCrossings mEdges mMet mUpper mLower mTape mTaped mPoint mEnd mBegin mFaultAt mFive mTold mActs mFar mViews mHullX mHullY mEndX mEndY mHeightUp mHeightLow mMeets mMeetsOf Rw) → va_S (xsF X) s.heap H locs → lv_has ls 5 [(0, .ref (xsA X 100)), (1, .int a0), (2, .int a1), (4, .int y2)] → W p l e { frames := 0, cells := 0, slots := 0, locals := 0 } s m ([.ref (xsA X 100), .int a0, .int a1] : List Value).toArray below meth c H locs 0 0 (MQ below Qq ([.ref (xsA X 100), .int a0, .int a1] : List Value).toArray s 0 0 (xsF X)) (F0 m 45 ls [.int y7]) := by
          intro y7 hf H locs ls hP hD hS hl
          unfold fX11_isEdge_J45 at hf
          refine lv_istore_n (lv' := [(3, .int y7), (0, .ref (xsA X 100)), (1, .int a0), (2, .int a1), (4, .int y2)]) hx hb dX11_isEdge_45 rfl hl (by decide) rfl (fun ls hl => ?_)
          obtain ⟨x8, ex8⟩ : ∃ y : Int32, y = y2 + (1 : Int32) := ⟨_, rfl⟩
          replace hf := xsLt_use ex8 hf
          refine lv_iinc (v := x8) (lv' := [(4, .int x8), (3, .int y7), (0, .ref (xsA X 100)), (1, .int a0), (2, .int a1)]) hx hb dX11_isEdge_46 hl (k := 4) rfl (by rw [ex8]; rfl) (by decide) rfl (fun ls hl => ?_)
          refine lv_goto (tgt := 5) hx hb dX11_isEdge_49 (by decide) ?_
          exact ih3 _ (Option.some.inj hf).symm hk3 H locs ls hP hD hS (lv_sub hl [2, 3, 4, 1, 0] rfl)
        replace hf := xsBd_use hf
        obtain ⟨v9, hf, hk10⟩ := hf
        refine lv_icmp_ne (tgt := 44) hx hb dX11_isEdge_26 (by decide) (fun c14 => ?_) (fun c14 => ?_)
        · replace hf := xsBr_f c14 hf
          refine lv_iconst (v := (0 : Int32)) hx hb dX11_isEdge_44 (by decide) ?_
          have ev := Option.some.inj hf
          subst ev
          exact K11 (0 : Int32) hk10 H locs ls hP hD hS (lv_sub hl [0, 1, 2, 4] rfl)
        · replace hf := xsBr_t c14 hf
          refine lv_aload_n hx hb dX11_isEdge_29 rfl (lv_at hl 0 rfl) ?_
          refine xg_X11_60 C hP dX11_isEdge_30 ?_
          refine lv_iload hx hb dX11_isEdge_33 (lv_at hl 4 rfl) ?_
          replace hf := xsCk_use hf
          obtain ⟨h12, hf⟩ := hf
          refine xl_mTo C hP h12 dX11_isEdge_35 ?_
          refine lv_iload_n hx hb dX11_isEdge_36 rfl (lv_at hl 2 rfl) ?_
          refine lv_icmp_ne (tgt := 44) hx hb dX11_isEdge_37 (by decide) (fun c13 => ?_) (fun c13 => ?_)
          · replace hf := xsBr_f c13 hf
            refine lv_iconst (v := (0 : Int32)) hx hb dX11_isEdge_44 (by decide) ?_
            have ev := Option.some.inj hf
            subst ev
            exact K11 (0 : Int32) hk10 H locs ls hP hD hS (lv_sub hl [0, 1, 2, 4] rfl)
          · replace hf := xsBr_t c13 hf
            refine lv_iconst (v := (1 : Int32)) hx hb dX11_isEdge_40 (by decide) ?_
            refine lv_goto (tgt := 45) hx hb dX11_isEdge_41 (by decide) ?_
            have ev := Option.some.inj hf
            subst ev
            exact K11 (1 : Int32) hk10 H locs ls hP hD hS (lv_sub hl [0, 1, 2, 4] rfl)
  exact L3 ((0 : Int32), (0 : Int32)) r3 hk30 hf H locs ls hP hD hS (lv_sub hl [2, 3, 4, 1, 0] rfl)
set_option maxRecDepth 100000 in
set_option maxHeartbeats 8000000 in
theorem mX11_laysEdges (l : Launch) {X : xsX} {mThrown mRemembered mHasImage mIsLaid mEvents mCrossings mEdges mTaped mPoint mEnd mBegin mFaultAt mActs : Int32} {mWorld mImage mDraft mEarlier mOne mTwo mShare mCrossingOf mBundle mEventOf mDegree mFrom mTo mMet mTape mFive mTold mFar mViews mHullX mHullY mEndX mEndY mMeets mMeetsOf : Nat → Int32} {mX mY mD mHeightUp mHeightLow : Int64} {mEventX mEventY mEventD mUpper mLower : Nat → Int64} {Rw : va_W} {a0 : Int32} {out : (Nat → Int32) × (Nat → Int32) × (Nat → Int32) × Int32} (hf : fX11_laysEdges mEvents mBundle mDegree mFrom mTo mEdges a0 = some out) : Met l yX11_laysEdges (xsWs yX11_laysEdges cX11_laysEdges 4 none) { frames := 1, cells := 0, slots := 0, locals := 24 } (xsP X (wM X mThrown mWorld mImage mDraft mEarlier mRemembered mHasImage mIsLaid mOne mTwo mShare mX mY mD mEventX mEventY mEventD mEvents mCrossingOf mBundle mEventOf mDegree mFrom mTo mCrossings mEdges mMet mUpper mLower mTape mTaped mPoint mEnd mBegin mFaultAt mFive mTold mActs mFar mViews mHullX mHullY mEndX mEndY mHeightUp mHeightLow mMeets mMeetsOf Rw) [.ref (xsA X 100), .int a0]) (xsQv X (wM X mThrown mWorld mImage mDraft mEarlier mRemembered mHasImage mIsLaid mOne mTwo mShare mX mY mD mEventX mEventY mEventD mEvents mCrossingOf mBundle mEventOf out.1 out.2.1 out.2.2.1 mCrossings out.2.2.2 mMet mUpper mLower mTape mTaped mPoint mEnd mBegin mFaultAt mFive mTold mActs mFar mViews mHullX mHullY mEndX mEndY mHeightUp mHeightLow mMeets mMeetsOf Rw)) 0 0 (xsF X) := by
  refine xs_meth RX11 (by decide) rfl (Nat.le_of_ble_eq_true rfl) ?_
  intro p e s m below meth c ls H locs C hP hD hS hr hlk hl
  have hx := C.1
  have hb := C.2.1
  have hl : lv_has ls 4 [(0, .ref (xsA X 100)), (1, .int a0)] := hl
  obtain ⟨Qq, hQq⟩ : ∃ Qq, Qq = xsQv X (wM X mThrown mWorld mImage mDraft mEarlier mRemembered mHasImage mIsLaid mOne mTwo mShare mX mY mD mEventX mEventY mEventD mEvents mCrossingOf mBundle mEventOf out.1 out.2.1 out.2.2.1 mCrossings out.2.2.2 mMet mUpper mLower mTape mTaped mPoint mEnd mBegin mFaultAt mFive mTold mActs mFar mViews mHullX mHullY mEndX mEndY mHeightUp mHeightLow mMeets mMeetsOf Rw) := ⟨_, rfl⟩
  rw [← hQq]
  unfold fX11_laysEdges at hf
  refine lv_iconst (v := (-1 : Int32)) hx hb dX11_laysEdges_0 (by decide) ?_
  refine lv_istore_n (lv' := [(2, .int (-1 : Int32)), (0, .ref (xsA X 100)), (1, .int a0)]) hx hb dX11_laysEdges_1 rfl hl (by decide) rfl (fun ls hl => ?_)
  refine lv_iconst (v := (0 : Int32)) hx hb dX11_laysEdges_2 (by decide) ?_
  refine lv_istore_n (lv' := [(3, .int (0 : Int32)), (2, .int (-1 : Int32)), (0, .ref (xsA X 100)), (1, .int a0)]) hx hb dX11_laysEdges_3 rfl hl (by decide) rfl (fun ls hl => ?_)
  have K7 : ∀ (y8 : Nat → Int32) (y9 : Nat → Int32) (y10 : Nat → Int32) (y11 : Int32) (hf : fX11_laysEdges_J100 y8 y9 y10 y11 = some out) (H : Heap) (locs : List Loc) (ls : Array Slot), va_P (xsD X) vwCl (wM X mThrown mWorld mImage mDraft mEarlier mRemembered mHasImage mIsLaid mOne mTwo mShare mX mY mD mEventX mEventY mEventD mEvents mCrossingOf mBundle mEventOf y8 y9 y10 mCrossings y11 mMet mUpper mLower mTape mTaped mPoint mEnd mBegin mFaultAt mFive mTold mActs mFar mViews mHullX mHullY mEndX mEndY mHeightUp mHeightLow mMeets mMeetsOf Rw) H → va_D (xsF X) (wM X mThrown mWorld mImage mDraft mEarlier mRemembered mHasImage mIsLaid mOne mTwo mShare mX mY mD mEventX mEventY mEventD mEvents mCrossingOf mBundle mEventOf y8 y9 y10 mCrossings y11 mMet mUpper mLower mTape mTaped mPoint mEnd mBegin mFaultAt mFive mTold mActs mFar mViews mHullX mHullY mEndX mEndY mHeightUp mHeightLow mMeets mMeetsOf Rw) → va_S (xsF X) s.heap H locs → lv_has ls 4 [] → W p l e { frames := 1, cells := 0, slots := 0, locals := 24 } s m ([.ref (xsA X 100), .int a0] : List Value).toArray below meth c H locs 0 0 (MQ below Qq ([.ref (xsA X 100), .int a0] : List Value).toArray s 0 0 (xsF X)) (F0 m 100 ls []) := by
    intro y8 y9 y10 y11 hf H locs ls hP hD hS hl
    unfold fX11_laysEdges_J100 at hf
    have ho := Option.some.inj hf
    subst ho
    rw [hQq]
    exact xs_vret C hr hlk hP hD hS dX11_laysEdges_100
  replace hf := xsBd_use hf
  obtain ⟨r7, hk70, hf⟩ := hf
  have L7 : ∀ (sg : Int32 × Int32 × (Nat → Int32) × (Nat → Int32) × (Nat → Int32) × Int32) (rg : (Nat → Int32) × (Nat → Int32) × (Nat → Int32) × Int32), xsWh (fun s7 => fX11_laysEdges_L4 mEvents mBundle a0 s7.1 s7.2.1 s7.2.2.1 s7.2.2.2.1 s7.2.2.2.2.1 s7.2.2.2.2.2) sg = some rg → (fX11_laysEdges_J100 rg.1 rg.2.1 rg.2.2.1 rg.2.2.2 = some out → ∀ (H : Heap) (locs : List Loc) (ls : Array Slot), va_P (xsD X) vwCl (wM X mThrown mWorld mImage mDraft mEarlier mRemembered mHasImage mIsLaid mOne mTwo mShare mX mY mD mEventX mEventY mEventD mEvents mCrossingOf mBundle mEventOf sg.2.2.1 sg.2.2.2.1 sg.2.2.2.2.1 mCrossings sg.2.2.2.2.2 mMet mUpper mLower mTape mTaped mPoint mEnd mBegin mFaultAt mFive mTold mActs mFar mViews mHullX mHullY mEndX mEndY mHeightUp mHeightLow mMeets mMeetsOf Rw) H → va_D (xsF X) (wM X mThrown mWorld mImage mDraft mEarlier mRemembered mHasImage mIsLaid mOne mTwo mShare mX mY mD mEventX mEventY mEventD mEvents mCrossingOf mBundle mEventOf sg.2.2.1 sg.2.2.2.1 sg.2.2.2.2.1 mCrossings sg.2.2.2.2.2 mMet mUpper mLower mTape mTaped mPoint mEnd mBegin mFaultAt mFive mTold mActs mFar mViews mHullX mHullY mEndX mEndY mHeightUp mHeightLow mMeets mMeetsOf Rw) → va_S (xsF X) s.heap H locs → lv_has ls 4 [(0, .ref (xsA X 100)), (1, .int a0), (2, .int sg.1), (3, .int sg.2.1)] → W p l e { frames := 1, cells := 0, slots := 0, locals := 24 } s m ([.ref (xsA X 100), .int a0] : List Value).toArray below meth c H locs 0 0 (MQ below Qq ([.ref (xsA X 100), .int a0] : List Value).toArray s 0 0 (xsF X)) (F0 m 4 ls [])) := by
    refine xsWh_ind ?_
    intro sg r7 u7 hf ih7 hx7 hk7 H locs ls hP hD hS hl
    obtain ⟨y1, y2, y3, y4, y5, y6⟩ := sg
    replace hf : fX11_laysEdges_L4 mEvents mBundle a0 y1 y2 y3 y4 y5 y6 = some u7 := hf
    replace hl : lv_has ls 4 [(0, .ref (xsA X 100)), (1, .int a0), (2, .int y1), (3, .int y2)] := hl
    replace hP : va_P (xsD X) vwCl (wM X mThrown mWorld mImage mDraft mEarlier mRemembered mHasImage mIsLaid mOne mTwo mShare mX mY mD mEventX mEventY mEventD mEvents mCrossingOf mBundle mEventOf y3 y4 y5 mCrossings y6 mMet mUpper mLower mTape mTaped mPoint mEnd mBegin mFaultAt mFive mTold mActs mFar mViews mHullX mHullY mEndX mEndY mHeightUp mHeightLow mMeets mMeetsOf Rw) H := hP
    replace hD : va_D (xsF X) (wM X mThrown mWorld mImage mDraft mEarlier mRemembered mHasImage mIsLaid mOne mTwo mShare mX mY mD mEventX mEventY mEventD mEvents mCrossingOf mBundle mEventOf y3 y4 y5 mCrossings y6 mMet mUpper mLower mTape mTaped mPoint mEnd mBegin mFaultAt mFive mTold mActs mFar mViews mHullX mHullY mEndX mEndY mHeightUp mHeightLow mMeets mMeetsOf Rw) := hD
    unfold fX11_laysEdges_L4 at hf
    refine lv_iload_n hx hb dX11_laysEdges_4 rfl (lv_at hl 3 rfl) ?_
    refine lv_aload_n hx hb dX11_laysEdges_5 rfl (lv_at hl 0 rfl) ?_
    refine xg_X11_193 C hP dX11_laysEdges_6 ?_
    refine lv_icmp_ge (tgt := 100) hx hb dX11_laysEdges_9 (by decide) (fun c47 => ?_) (fun c47 => ?_)
    · replace hf := xsBr_t c47 hf
      have ez := hx7 _ (Option.some.inj hf).symm
      subst ez
      exact K7 y3 y4 y5 y6 hk7 H locs ls hP hD hS (lv_sub hl [] rfl)
    · replace hf := xsBr_f c47 hf
      refine lv_aload_n hx hb dX11_laysEdges_12 rfl (lv_at hl 0 rfl) ?_
      refine xg_X11_48 C hP dX11_laysEdges_13 ?_
      refine lv_iload_n hx hb dX11_laysEdges_16 rfl (lv_at hl 3 rfl) ?_
      replace hf := xsCk_use hf
      obtain ⟨h12, hf⟩ := hf
      refine xl_mBundle C hP h12 dX11_laysEdges_17 ?_
      refine lv_iload_n hx hb dX11_laysEdges_18 rfl (lv_at hl 1 rfl) ?_
      replace hf := xsBd_use hf
      obtain ⟨o13, h14, hf⟩ := hf
      refine xs_calli hS (xs_runS (As := [.int (mBundle y2.toNatClampNeg), .int a0]) C (mX11_holds l  h14) w_1700 w_1701 w_115 w_1702 hd_X11_holds ⟨rfl, rfl, Nat.le_of_ble_eq_true rfl, Nat.le_of_ble_eq_true rfl, Nat.zero_le _, Nat.zero_le _⟩ hP hD hS hl.1 rfl (Nat.le_of_ble_eq_true rfl) dX11_laysEdges_19) (fun H locs hP hD hS => ?_)
      have K23 : ∀ (y15 : Int32) (y16 : Nat → Int32) (y17 : Nat → Int32) (y18 : Nat → Int32) (y19 : Int32) (hf : fX11_laysEdges_J94 y2 y15 y16 y17 y18 y19 = some u7) (H : Heap) (locs : List Loc) (ls : Array Slot), va_P (xsD X) vwCl (wM X mThrown mWorld mImage mDraft mEarlier mRemembered mHasImage mIsLaid mOne mTwo mShare mX mY mD mEventX mEventY mEventD mEvents mCrossingOf mBundle mEventOf y16 y17 y18 mCrossings y19 mMet mUpper mLower mTape mTaped mPoint mEnd mBegin mFaultAt mFive mTold mActs mFar mViews mHullX mHullY mEndX mEndY mHeightUp mHeightLow mMeets mMeetsOf Rw) H → va_D (xsF X) (wM X mThrown mWorld mImage mDraft mEarlier mRemembered mHasImage mIsLaid mOne mTwo mShare mX mY mD mEventX mEventY mEventD mEvents mCrossingOf mBundle mEventOf y16 y17 y18 mCrossings y19 mMet mUpper mLower mTape mTaped mPoint mEnd mBegin mFaultAt mFive mTold mActs mFar mViews mHullX mHullY mEndX mEndY mHeightUp mHeightLow mMeets mMeetsOf Rw) → va_S (xsF X) s.heap H locs → lv_has ls 4 [(0, .ref (xsA X 100)), (1, .int a0), (2, .int y15), (3, .int y2)] → W p l e { frames := 1, cells := 0, slots := 0, locals := 24 } s m ([.ref (xsA X 100), .int a0] : List Value).toArray below meth c H locs 0 0 (MQ below Qq ([.ref (xsA X 100), .int a0] : List Value).toArray s 0 0 (xsF X)) (F0 m 94 ls []) := by
        intro y15 y16 y17 y18 y19 hf H locs ls hP hD hS hl
        unfold fX11_laysEdges_J94 at hf
        obtain ⟨x20, ex20⟩ : ∃ y : Int32, y = y2 + (1 : Int32) := ⟨_, rfl⟩
        replace hf := xsLt_use ex20 hf
        refine lv_iinc (v := x20) (lv' := [(3, .int x20), (0, .ref (xsA X 100)), (1, .int a0), (2, .int y15)]) hx hb dX11_laysEdges_94 hl (k := 3) rfl (by rw [ex20]; rfl) (by decide) rfl (fun ls hl => ?_)
        refine lv_goto (tgt := 4) hx hb dX11_laysEdges_97 (by decide) ?_
        exact ih7 _ (Option.some.inj hf).symm hk7 H locs ls hP hD hS (lv_sub hl [1, 2, 3, 0] rfl)
      replace hf := xsBd_use hf
      obtain ⟨v21, hf, hk22⟩ := hf
      refine lv_if_ne (tgt := 28) hx hb dX11_laysEdges_22 (by decide) (fun c46 => ?_) (fun c46 => ?_)
      · replace hf := xsBr_f c46 hf
        refine lv_iload_n hx hb dX11_laysEdges_28 rfl (lv_at hl 2 rfl) ?_
        refine lv_iconst (v := (-1 : Int32)) hx hb dX11_laysEdges_29 (by decide) ?_
        have K30 : ∀ (y24 : Nat → Int32) (y25 : Nat → Int32) (y26 : Nat → Int32) (y27 : Int32) (hf : fX11_laysEdges_J92 y2 y24 y25 y26 y27 = some v21) (H : Heap) (locs : List Loc) (ls : Array Slot), va_P (xsD X) vwCl (wM X mThrown mWorld mImage mDraft mEarlier mRemembered mHasImage mIsLaid mOne mTwo mShare mX mY mD mEventX mEventY mEventD mEvents mCrossingOf mBundle mEventOf y24 y25 y26 mCrossings y27 mMet mUpper mLower mTape mTaped mPoint mEnd mBegin mFaultAt mFive mTold mActs mFar mViews mHullX mHullY mEndX mEndY mHeightUp mHeightLow mMeets mMeetsOf Rw) H → va_D (xsF X) (wM X mThrown mWorld mImage mDraft mEarlier mRemembered mHasImage mIsLaid mOne mTwo mShare mX mY mD mEventX mEventY mEventD mEvents mCrossingOf mBundle mEventOf y24 y25 y26 mCrossings y27 mMet mUpper mLower mTape mTaped mPoint mEnd mBegin mFaultAt mFive mTold mActs mFar mViews mHullX mHullY mEndX mEndY mHeightUp mHeightLow mMeets mMeetsOf Rw) → va_S (xsF X) s.heap H locs → lv_has ls 4 [(0, .ref (xsA X 100)), (1, .int a0), (3, .int y2)] → W p l e { frames := 1, cells := 0, slots := 0, locals := 24 } s m ([.ref (xsA X 100), .int a0] : List Value).toArray below meth c H locs 0 0 (MQ below Qq ([.ref (xsA X 100), .int a0] : List Value).toArray s 0 0 (xsF X)) (F0 m 92 ls []) := by
          intro y24 y25 y26 y27 hf H locs ls hP hD hS hl
          unfold fX11_laysEdges_J92 at hf
          refine lv_iload_n hx hb dX11_laysEdges_92 rfl (lv_at hl 2 rfl) ?_
          refine lv_istore_n (lv' := [(2, .int y2), (0, .ref (xsA X 100)), (1, .int a0), (3, .int y2)]) hx hb dX11_laysEdges_93 rfl hl (by decide) rfl (fun ls hl => ?_)
          have ev := Option.some.inj hf
          subst ev
          exact K23 y2 y24 y25 y26 y27 hk22 H locs ls hP hD hS (lv_sub hl [1, 2, 0, 3] rfl)
        replace hf := xsBd_use hf
        obtain ⟨v28, hf, hk29⟩ := hf
        refine lv_icmp_eq (tgt := 92) hx hb dX11_laysEdges_30 (by decide) (fun c45 => ?_) (fun c45 => ?_)
        · replace hf := xsBr_t c45 hf
          have ev := Option.some.inj hf
          subst ev
          exact K30 y3 y4 y5 y6 hk29 H locs ls hP hD hS (lv_sub hl [0, 1, 3] rfl)
        · replace hf := xsBr_f c45 hf
          refine lv_aload_n hx hb dX11_laysEdges_33 rfl (lv_at hl 0 rfl) ?_
          refine lv_iload_n hx hb dX11_laysEdges_34 rfl (lv_at hl 2 rfl) ?_
          refine lv_iload_n hx hb dX11_laysEdges_35 rfl (lv_at hl 3 rfl) ?_
          replace hf := xsBd_use hf
          obtain ⟨o31, h32, hf⟩ := hf
          refine xs_calli hS (xs_runV (As := [.int y1, .int y2]) C (mX11_isEdge l  h32) w_1703 w_1705 w_65 w_115 w_1706 hd_X11_isEdge ⟨rfl, rfl, Nat.le_of_ble_eq_true rfl, Nat.le_of_ble_eq_true rfl, Nat.zero_le _, Nat.zero_le _⟩ hP hD hS lk_X11 rfl hl.1 rfl (Nat.le_of_ble_eq_true rfl) dX11_laysEdges_36) (fun H locs hP hD hS => ?_)
          refine lv_if_ne (tgt := 92) hx hb dX11_laysEdges_39 (by decide) (fun c44 => ?_) (fun c44 => ?_)
          · replace hf := xsBr_f c44 hf
            have ev := Option.some.inj hf
            subst ev
            exact K30 y3 y4 y5 y6 hk29 H locs ls hP hD hS (lv_sub hl [0, 1, 3] rfl)
          · replace hf := xsBr_t c44 hf
            refine lv_aload_n hx hb dX11_laysEdges_42 rfl (lv_at hl 0 rfl) ?_
            refine xg_X11_57 C hP dX11_laysEdges_43 ?_
            refine lv_aload_n hx hb dX11_laysEdges_46 rfl (lv_at hl 0 rfl) ?_
            refine xg_X11_213 C hP dX11_laysEdges_47 ?_
            refine lv_iload_n hx hb dX11_laysEdges_50 rfl (lv_at hl 2 rfl) ?_
            replace hf := xsCk_use hf
            obtain ⟨h33, hf⟩ := hf
            refine xs_mFrom C hP hD hS h33 dX11_laysEdges_51 (fun f34 ef34 H locs hP hD hS => ?_)
            replace hf := xsLt_use ef34 hf
            refine lv_aload_n hx hb dX11_laysEdges_52 rfl (lv_at hl 0 rfl) ?_
            refine xg_X11_60 C hP dX11_laysEdges_53 ?_
            refine lv_aload_n hx hb dX11_laysEdges_56 rfl (lv_at hl 0 rfl) ?_
            refine xg_X11_213 C hP dX11_laysEdges_57 ?_
            refine lv_iload_n hx hb dX11_laysEdges_60 rfl (lv_at hl 3 rfl) ?_
            replace hf := xsCk_use hf
            obtain ⟨h35, hf⟩ := hf
            refine xs_mTo C hP hD hS h35 dX11_laysEdges_61 (fun f36 ef36 H locs hP hD hS => ?_)
            replace hf := xsLt_use ef36 hf
            refine lv_aload_n hx hb dX11_laysEdges_62 rfl (lv_at hl 0 rfl) ?_
            refine lv_dup hx hb dX11_laysEdges_63 rfl ?_
            refine xg_X11_213 C hP dX11_laysEdges_64 ?_
            refine lv_iconst (v := (1 : Int32)) hx hb dX11_laysEdges_67 (by decide) ?_
            refine lv_iadd hx hb dX11_laysEdges_68 ?_
            refine lv_topi (fun x37 ex37 => ?_)
            replace hf := xsLt_use ex37 hf
            refine xp_X11_213 C hP hD hS dX11_laysEdges_69 (fun H locs hP hD hS => ?_)
            refine lv_aload_n hx hb dX11_laysEdges_72 rfl (lv_at hl 0 rfl) ?_
            refine xg_X11_54 C hP dX11_laysEdges_73 ?_
            refine lv_iload_n hx hb dX11_laysEdges_76 rfl (lv_at hl 2 rfl) ?_
            refine lv_dup2_11 hx hb dX11_laysEdges_77 rfl rfl ?_
            replace hf := xsCk_use hf
            obtain ⟨h38, hf⟩ := hf
            refine xl_mDegree C hP h38 dX11_laysEdges_78 ?_
            refine lv_iconst (v := (1 : Int32)) hx hb dX11_laysEdges_79 (by decide) ?_
            refine lv_iadd hx hb dX11_laysEdges_80 ?_
            replace hf := xsCk_use hf
            obtain ⟨h39, hf⟩ := hf
            refine xs_mDegree C hP hD hS h39 dX11_laysEdges_81 (fun f40 ef40 H locs hP hD hS => ?_)
            replace hf := xsLt_use ef40 hf
            refine lv_aload_n hx hb dX11_laysEdges_82 rfl (lv_at hl 0 rfl) ?_
            refine xg_X11_54 C hP dX11_laysEdges_83 ?_
            refine lv_iload_n hx hb dX11_laysEdges_86 rfl (lv_at hl 3 rfl) ?_
            refine lv_dup2_11 hx hb dX11_laysEdges_87 rfl rfl ?_
            replace hf := xsCk_use hf
            obtain ⟨h41, hf⟩ := hf
            refine xl_mDegree C hP h41 dX11_laysEdges_88 ?_
            refine lv_iconst (v := (1 : Int32)) hx hb dX11_laysEdges_89 (by decide) ?_
            refine lv_iadd hx hb dX11_laysEdges_90 ?_
            replace hf := xsCk_use hf
            obtain ⟨h42, hf⟩ := hf
            refine xs_mDegree C hP hD hS h42 dX11_laysEdges_91 (fun f43 ef43 H locs hP hD hS => ?_)
            replace hf := xsLt_use ef43 hf
            have ev := Option.some.inj hf
            subst ev
            exact K30 f43 f34 f36 x37 hk29 H locs ls hP hD hS (lv_sub hl [0, 1, 3] rfl)
      · replace hf := xsBr_t c46 hf
        refine lv_goto (tgt := 94) hx hb dX11_laysEdges_25 (by decide) ?_
        have ev := Option.some.inj hf
        subst ev
        exact K23 y1 y3 y4 y5 y6 hk22 H locs ls hP hD hS (lv_sub hl [0, 1, 2, 3] rfl)
  exact L7 ((-1 : Int32), (0 : Int32), mDegree, mFrom, mTo, mEdges) r7 hk70 hf H locs ls hP hD hS (lv_sub hl [2, 3, 1, 0] rfl)
set_option maxRecDepth 100000 in
set_option maxHeartbeats 8000000 in
theorem mX11_lays (l : Launch) {X : xsX} {mThrown mRemembered mHasImage mIsLaid mEvents mCrossings mEdges mTaped mPoint mEnd mBegin mFaultAt mActs : Int32} {mWorld mImage mDraft mEarlier mOne mTwo mShare mCrossingOf mBundle mEventOf mDegree mFrom mTo mMet mTape mFive mTold mFar mViews mHullX mHullY mEndX mEndY mMeets mMeetsOf : Nat → Int32} {mX mY mD mHeightUp mHeightLow : Int64} {mEventX mEventY mEventD mUpper mLower : Nat → Int64} {Rw : va_W} {out : Int32 × (Nat → Int32) × (Nat → Int32) × (Nat → Int32) × Int64 × Int64 × Int64 × (Nat → Int64) × (Nat → Int64) × (Nat → Int64) × Int32 × (Nat → Int32) × (Nat → Int32) × (Nat → Int32) × (Nat → Int32) × (Nat → Int32) × (Nat → Int32) × Int32 × Int32} (hf : fX11_lays mWorld mIsLaid mOne mTwo mShare mX mY mD mEventX mEventY mEventD mEvents mCrossingOf mBundle mEventOf mDegree mFrom mTo mCrossings mEdges = some out) : Met l yX11_lays (xsWs yX11_lays cX11_lays 4 none) { frames := 5, cells := 0, slots := 0, locals := 141 } (xsP X (wM X mThrown mWorld mImage mDraft mEarlier mRemembered mHasImage mIsLaid mOne mTwo mShare mX mY mD mEventX mEventY mEventD mEvents mCrossingOf mBundle mEventOf mDegree mFrom mTo mCrossings mEdges mMet mUpper mLower mTape mTaped mPoint mEnd mBegin mFaultAt mFive mTold mActs mFar mViews mHullX mHullY mEndX mEndY mHeightUp mHeightLow mMeets mMeetsOf Rw) [.ref (xsA X 100)]) (xsQv X (wM X mThrown mWorld mImage mDraft mEarlier mRemembered mHasImage out.1 out.2.1 out.2.2.1 out.2.2.2.1 out.2.2.2.2.1 out.2.2.2.2.2.1 out.2.2.2.2.2.2.1 out.2.2.2.2.2.2.2.1 out.2.2.2.2.2.2.2.2.1 out.2.2.2.2.2.2.2.2.2.1 out.2.2.2.2.2.2.2.2.2.2.1 out.2.2.2.2.2.2.2.2.2.2.2.1 out.2.2.2.2.2.2.2.2.2.2.2.2.1 out.2.2.2.2.2.2.2.2.2.2.2.2.2.1 out.2.2.2.2.2.2.2.2.2.2.2.2.2.2.1 out.2.2.2.2.2.2.2.2.2.2.2.2.2.2.2.1 out.2.2.2.2.2.2.2.2.2.2.2.2.2.2.2.2.1 out.2.2.2.2.2.2.2.2.2.2.2.2.2.2.2.2.2.1 out.2.2.2.2.2.2.2.2.2.2.2.2.2.2.2.2.2.2 mMet mUpper mLower mTape mTaped mPoint mEnd mBegin mFaultAt mFive mTold mActs mFar mViews mHullX mHullY mEndX mEndY mHeightUp mHeightLow mMeets mMeetsOf Rw)) 0 0 (xsF X) := by
  refine xs_meth RX11 (by decide) rfl (Nat.le_of_ble_eq_true rfl) ?_
  intro p e s m below meth c ls H locs C hP hD hS hr hlk hl
  have hx := C.1
  have hb := C.2.1
  have hl : lv_has ls 4 [(0, .ref (xsA X 100))] := hl
  obtain ⟨Qq, hQq⟩ : ∃ Qq, Qq = xsQv X (wM X mThrown mWorld mImage mDraft mEarlier mRemembered mHasImage out.1 out.2.1 out.2.2.1 out.2.2.2.1 out.2.2.2.2.1 out.2.2.2.2.2.1 out.2.2.2.2.2.2.1 out.2.2.2.2.2.2.2.1 out.2.2.2.2.2.2.2.2.1 out.2.2.2.2.2.2.2.2.2.1 out.2.2.2.2.2.2.2.2.2.2.1 out.2.2.2.2.2.2.2.2.2.2.2.1 out.2.2.2.2.2.2.2.2.2.2.2.2.1 out.2.2.2.2.2.2.2.2.2.2.2.2.2.1 out.2.2.2.2.2.2.2.2.2.2.2.2.2.2.1 out.2.2.2.2.2.2.2.2.2.2.2.2.2.2.2.1 out.2.2.2.2.2.2.2.2.2.2.2.2.2.2.2.2.1 out.2.2.2.2.2.2.2.2.2.2.2.2.2.2.2.2.2.1 out.2.2.2.2.2.2.2.2.2.2.2.2.2.2.2.2.2.2 mMet mUpper mLower mTape mTaped mPoint mEnd mBegin mFaultAt mFive mTold mActs mFar mViews mHullX mHullY mEndX mEndY mHeightUp mHeightLow mMeets mMeetsOf Rw) := ⟨_, rfl⟩
  rw [← hQq]
  unfold fX11_lays at hf
  refine lv_aload_n hx hb dX11_lays_0 rfl (lv_at hl 0 rfl) ?_
  refine xg_X11_109 C hP dX11_lays_1 ?_
  refine lv_if_eq (tgt := 8) hx hb dX11_lays_4 (by decide) (fun c167 => ?_) (fun c167 => ?_)
  · replace hf := xsBr_t c167 hf
    refine lv_aload_n hx hb dX11_lays_8 rfl (lv_at hl 0 rfl) ?_
    refine lv_iconst (v := (1 : Int32)) hx hb dX11_lays_9 (by decide) ?_
    refine xp_X11_109 xsB_1 C hP hD hS dX11_lays_10 (fun H locs hP hD hS => ?_)
    refine lv_aload_n hx hb dX11_lays_13 rfl (lv_at hl 0 rfl) ?_
    refine lv_iconst (v := (0 : Int32)) hx hb dX11_lays_14 (by decide) ?_
    refine xp_X11_193 C hP hD hS dX11_lays_15 (fun H locs hP hD hS => ?_)
    refine lv_iconst (v := (0 : Int32)) hx hb dX11_lays_18 (by decide) ?_
    refine lv_istore_n (lv' := [(1, .int (0 : Int32)), (0, .ref (xsA X 100))]) hx hb dX11_lays_19 rfl hl (by decide) rfl (fun ls hl => ?_)
    have K7 : ∀ (y8 : Nat → Int64) (y9 : Nat → Int64) (y10 : Nat → Int64) (y11 : Int32) (y12 : Nat → Int32) (hf : fX11_lays_J74 mWorld mOne mTwo mShare mX mY mD mBundle mEventOf mDegree mFrom mTo y8 y9 y10 y11 y12 = some out) (H : Heap) (locs : List Loc) (ls : Array Slot), va_P (xsD X) vwCl (wM X mThrown mWorld mImage mDraft mEarlier mRemembered mHasImage (1 : Int32) mOne mTwo mShare mX mY mD y8 y9 y10 y11 y12 mBundle mEventOf mDegree mFrom mTo mCrossings mEdges mMet mUpper mLower mTape mTaped mPoint mEnd mBegin mFaultAt mFive mTold mActs mFar mViews mHullX mHullY mEndX mEndY mHeightUp mHeightLow mMeets mMeetsOf Rw) H → va_D (xsF X) (wM X mThrown mWorld mImage mDraft mEarlier mRemembered mHasImage (1 : Int32) mOne mTwo mShare mX mY mD y8 y9 y10 y11 y12 mBundle mEventOf mDegree mFrom mTo mCrossings mEdges mMet mUpper mLower mTape mTaped mPoint mEnd mBegin mFaultAt mFive mTold mActs mFar mViews mHullX mHullY mEndX mEndY mHeightUp mHeightLow mMeets mMeetsOf Rw) → va_S (xsF X) s.heap H locs → lv_has ls 4 [(0, .ref (xsA X 100))] → W p l e { frames := 5, cells := 0, slots := 0, locals := 141 } s m ([.ref (xsA X 100)] : List Value).toArray below meth c H locs 0 0 (MQ below Qq ([.ref (xsA X 100)] : List Value).toArray s 0 0 (xsF X)) (F0 m 74 ls []) := by
      intro y8 y9 y10 y11 y12 hf H locs ls hP hD hS hl
      unfold fX11_lays_J74 at hf
      refine lv_iconst (v := (0 : Int32)) hx hb dX11_lays_74 (by decide) ?_
      refine lv_istore_n (lv' := [(1, .int (0 : Int32)), (0, .ref (xsA X 100))]) hx hb dX11_lays_75 rfl hl (by decide) rfl (fun ls hl => ?_)
      have K25 : ∀ (y26 : Nat → Int32) (y27 : Nat → Int32) (y28 : Nat → Int32) (y29 : Int64) (y30 : Int64) (y31 : Int64) (y32 : Nat → Int64) (y33 : Nat → Int64) (y34 : Nat → Int64) (y35 : Int32) (y36 : Nat → Int32) (hf : fX11_lays_J135 mWorld mBundle mEventOf mDegree mFrom mTo y26 y27 y28 y29 y30 y31 y32 y33 y34 y35 y36 = some out) (H : Heap) (locs : List Loc) (ls : Array Slot), va_P (xsD X) vwCl (wM X mThrown mWorld mImage mDraft mEarlier mRemembered mHasImage (1 : Int32) y26 y27 y28 y29 y30 y31 y32 y33 y34 y35 y36 mBundle mEventOf mDegree mFrom mTo mCrossings mEdges mMet mUpper mLower mTape mTaped mPoint mEnd mBegin mFaultAt mFive mTold mActs mFar mViews mHullX mHullY mEndX mEndY mHeightUp mHeightLow mMeets mMeetsOf Rw) H → va_D (xsF X) (wM X mThrown mWorld mImage mDraft mEarlier mRemembered mHasImage (1 : Int32) y26 y27 y28 y29 y30 y31 y32 y33 y34 y35 y36 mBundle mEventOf mDegree mFrom mTo mCrossings mEdges mMet mUpper mLower mTape mTaped mPoint mEnd mBegin mFaultAt mFive mTold mActs mFar mViews mHullX mHullY mEndX mEndY mHeightUp mHeightLow mMeets mMeetsOf Rw) → va_S (xsF X) s.heap H locs → lv_has ls 4 [(0, .ref (xsA X 100))] → W p l e { frames := 5, cells := 0, slots := 0, locals := 141 } s m ([.ref (xsA X 100)] : List Value).toArray below meth c H locs 0 0 (MQ below Qq ([.ref (xsA X 100)] : List Value).toArray s 0 0 (xsF X)) (F0 m 135 ls []) := by
        intro y26 y27 y28 y29 y30 y31 y32 y33 y34 y35 y36 hf H locs ls hP hD hS hl
        unfold fX11_lays_J135 at hf
        refine lv_aload_n hx hb dX11_lays_135 rfl (lv_at hl 0 rfl) ?_
        refine lv_iconst (v := (0 : Int32)) hx hb dX11_lays_136 (by decide) ?_
        refine xp_X11_206 C hP hD hS dX11_lays_137 (fun H locs hP hD hS => ?_)
        refine lv_iconst (v := (0 : Int32)) hx hb dX11_lays_140 (by decide) ?_
        refine lv_istore_n (lv' := [(1, .int (0 : Int32)), (0, .ref (xsA X 100))]) hx hb dX11_lays_141 rfl hl (by decide) rfl (fun ls hl => ?_)
        have K44 : ∀ (y45 : Nat → Int32) (y46 : Nat → Int32) (y47 : Nat → Int32) (y48 : Nat → Int32) (y49 : Nat → Int32) (y50 : Int32) (hf : fX11_lays_J254 mWorld mFrom mTo y27 y28 y29 y30 y31 y32 y33 y34 y35 y45 y46 y47 y48 y49 y50 = some out) (H : Heap) (locs : List Loc) (ls : Array Slot), va_P (xsD X) vwCl (wM X mThrown mWorld mImage mDraft mEarlier mRemembered mHasImage (1 : Int32) y45 y27 y28 y29 y30 y31 y32 y33 y34 y35 y46 y47 y48 y49 mFrom mTo y50 mEdges mMet mUpper mLower mTape mTaped mPoint mEnd mBegin mFaultAt mFive mTold mActs mFar mViews mHullX mHullY mEndX mEndY mHeightUp mHeightLow mMeets mMeetsOf Rw) H → va_D (xsF X) (wM X mThrown mWorld mImage mDraft mEarlier mRemembered mHasImage (1 : Int32) y45 y27 y28 y29 y30 y31 y32 y33 y34 y35 y46 y47 y48 y49 mFrom mTo y50 mEdges mMet mUpper mLower mTape mTaped mPoint mEnd mBegin mFaultAt mFive mTold mActs mFar mViews mHullX mHullY mEndX mEndY mHeightUp mHeightLow mMeets mMeetsOf Rw) → va_S (xsF X) s.heap H locs → lv_has ls 4 [(0, .ref (xsA X 100))] → W p l e { frames := 5, cells := 0, slots := 0, locals := 141 } s m ([.ref (xsA X 100)] : List Value).toArray below meth c H locs 0 0 (MQ below Qq ([.ref (xsA X 100)] : List Value).toArray s 0 0 (xsF X)) (F0 m 254 ls []) := by
          intro y45 y46 y47 y48 y49 y50 hf H locs ls hP hD hS hl
          unfold fX11_lays_J254 at hf
          refine lv_aload_n hx hb dX11_lays_254 rfl (lv_at hl 0 rfl) ?_
          refine lv_iconst (v := (0 : Int32)) hx hb dX11_lays_255 (by decide) ?_
          refine xp_X11_213 C hP hD hS dX11_lays_256 (fun H locs hP hD hS => ?_)
          refine lv_iconst (v := (0 : Int32)) hx hb dX11_lays_259 (by decide) ?_
          refine lv_istore_n (lv' := [(1, .int (0 : Int32)), (0, .ref (xsA X 100))]) hx hb dX11_lays_260 rfl hl (by decide) rfl (fun ls hl => ?_)
          have K56 : ∀ (y57 : Nat → Int32) (y58 : Nat → Int32) (y59 : Nat → Int32) (y60 : Int32) (hf : fX11_lays_J280 y27 y28 y29 y30 y31 y32 y33 y34 y35 y45 y46 y47 y48 y50 y57 y58 y59 y60 = some out) (H : Heap) (locs : List Loc) (ls : Array Slot), va_P (xsD X) vwCl (wM X mThrown mWorld mImage mDraft mEarlier mRemembered mHasImage (1 : Int32) y45 y27 y28 y29 y30 y31 y32 y33 y34 y35 y46 y47 y48 y57 y58 y59 y50 y60 mMet mUpper mLower mTape mTaped mPoint mEnd mBegin mFaultAt mFive mTold mActs mFar mViews mHullX mHullY mEndX mEndY mHeightUp mHeightLow mMeets mMeetsOf Rw) H → va_D (xsF X) (wM X mThrown mWorld mImage mDraft mEarlier mRemembered mHasImage (1 : Int32) y45 y27 y28 y29 y30 y31 y32 y33 y34 y35 y46 y47 y48 y57 y58 y59 y50 y60 mMet mUpper mLower mTape mTaped mPoint mEnd mBegin mFaultAt mFive mTold mActs mFar mViews mHullX mHullY mEndX mEndY mHeightUp mHeightLow mMeets mMeetsOf Rw) → va_S (xsF X) s.heap H locs → lv_has ls 4 [] → W p l e { frames := 5, cells := 0, slots := 0, locals := 141 } s m ([.ref (xsA X 100)] : List Value).toArray below meth c H locs 0 0 (MQ below Qq ([.ref (xsA X 100)] : List Value).toArray s 0 0 (xsF X)) (F0 m 280 ls []) := by
            intro y57 y58 y59 y60 hf H locs ls hP hD hS hl
            unfold fX11_lays_J280 at hf
            have ho := Option.some.inj hf
            subst ho
            rw [hQq]
            exact xs_vret C hr hlk hP hD hS dX11_lays_280
          replace hf := xsBd_use hf
          obtain ⟨r56, hk560, hf⟩ := hf
          have L56 : ∀ (sg : Int32 × (Nat → Int32) × (Nat → Int32) × (Nat → Int32) × Int32) (rg : (Nat → Int32) × (Nat → Int32) × (Nat → Int32) × Int32), xsWh (fun s56 => fX11_lays_L261 mWorld y35 y47 s56.1 s56.2.1 s56.2.2.1 s56.2.2.2.1 s56.2.2.2.2) sg = some rg → (fX11_lays_J280 y27 y28 y29 y30 y31 y32 y33 y34 y35 y45 y46 y47 y48 y50 rg.1 rg.2.1 rg.2.2.1 rg.2.2.2 = some out → ∀ (H : Heap) (locs : List Loc) (ls : Array Slot), va_P (xsD X) vwCl (wM X mThrown mWorld mImage mDraft mEarlier mRemembered mHasImage (1 : Int32) y45 y27 y28 y29 y30 y31 y32 y33 y34 y35 y46 y47 y48 sg.2.1 sg.2.2.1 sg.2.2.2.1 y50 sg.2.2.2.2 mMet mUpper mLower mTape mTaped mPoint mEnd mBegin mFaultAt mFive mTold mActs mFar mViews mHullX mHullY mEndX mEndY mHeightUp mHeightLow mMeets mMeetsOf Rw) H → va_D (xsF X) (wM X mThrown mWorld mImage mDraft mEarlier mRemembered mHasImage (1 : Int32) y45 y27 y28 y29 y30 y31 y32 y33 y34 y35 y46 y47 y48 sg.2.1 sg.2.2.1 sg.2.2.2.1 y50 sg.2.2.2.2 mMet mUpper mLower mTape mTaped mPoint mEnd mBegin mFaultAt mFive mTold mActs mFar mViews mHullX mHullY mEndX mEndY mHeightUp mHeightLow mMeets mMeetsOf Rw) → va_S (xsF X) s.heap H locs → lv_has ls 4 [(0, .ref (xsA X 100)), (1, .int sg.1)] → W p l e { frames := 5, cells := 0, slots := 0, locals := 141 } s m ([.ref (xsA X 100)] : List Value).toArray below meth c H locs 0 0 (MQ below Qq ([.ref (xsA X 100)] : List Value).toArray s 0 0 (xsF X)) (F0 m 261 ls [])) := by
            refine xsWh_ind ?_
            intro sg r56 u56 hf ih56 hx56 hk56 H locs ls hP hD hS hl
            obtain ⟨y51, y52, y53, y54, y55⟩ := sg
            replace hf : fX11_lays_L261 mWorld y35 y47 y51 y52 y53 y54 y55 = some u56 := hf
            replace hl : lv_has ls 4 [(0, .ref (xsA X 100)), (1, .int y51)] := hl
            replace hP : va_P (xsD X) vwCl (wM X mThrown mWorld mImage mDraft mEarlier mRemembered mHasImage (1 : Int32) y45 y27 y28 y29 y30 y31 y32 y33 y34 y35 y46 y47 y48 y52 y53 y54 y50 y55 mMet mUpper mLower mTape mTaped mPoint mEnd mBegin mFaultAt mFive mTold mActs mFar mViews mHullX mHullY mEndX mEndY mHeightUp mHeightLow mMeets mMeetsOf Rw) H := hP
            replace hD : va_D (xsF X) (wM X mThrown mWorld mImage mDraft mEarlier mRemembered mHasImage (1 : Int32) y45 y27 y28 y29 y30 y31 y32 y33 y34 y35 y46 y47 y48 y52 y53 y54 y50 y55 mMet mUpper mLower mTape mTaped mPoint mEnd mBegin mFaultAt mFive mTold mActs mFar mViews mHullX mHullY mEndX mEndY mHeightUp mHeightLow mMeets mMeetsOf Rw) := hD
            unfold fX11_lays_L261 at hf
            refine lv_iload_n hx hb dX11_lays_261 rfl (lv_at hl 1 rfl) ?_
            refine lv_aload_n hx hb dX11_lays_262 rfl (lv_at hl 0 rfl) ?_
            replace hf := xsBd_use hf
            obtain ⟨o61, h62, hf⟩ := hf
            refine xs_calli hS (xs_runV (As := []) C (mX11_many l  h62) w_1581 w_1583 w_44 w_115 w_1584 hd_X11_many ⟨rfl, rfl, Nat.le_of_ble_eq_true rfl, Nat.le_of_ble_eq_true rfl, Nat.zero_le _, Nat.zero_le _⟩ hP hD hS lk_X11 rfl hl.1 rfl (Nat.le_of_ble_eq_true rfl) dX11_lays_263) (fun H locs hP hD hS => ?_)
            refine lv_icmp_ge (tgt := 280) hx hb dX11_lays_266 (by decide) (fun c66 => ?_) (fun c66 => ?_)
            · replace hf := xsBr_t c66 hf
              have ez := hx56 _ (Option.some.inj hf).symm
              subst ez
              exact K56 y52 y53 y54 y55 hk56 H locs ls hP hD hS (lv_sub hl [] rfl)
            · replace hf := xsBr_f c66 hf
              refine lv_aload_n hx hb dX11_lays_269 rfl (lv_at hl 0 rfl) ?_
              refine lv_iload_n hx hb dX11_lays_270 rfl (lv_at hl 1 rfl) ?_
              replace hf := xsBd_use hf
              obtain ⟨o63, h64, hf⟩ := hf
              refine xs_callv hS (xs_runV (As := [.int y51]) C (mX11_laysEdges l  h64) w_1696 w_1698 w_64 w_115 w_1699 hd_X11_laysEdges ⟨rfl, rfl, Nat.le_of_ble_eq_true rfl, Nat.le_of_ble_eq_true rfl, Nat.zero_le _, Nat.zero_le _⟩ hP hD hS lk_X11 rfl hl.1 rfl (Nat.le_of_ble_eq_true rfl) dX11_lays_271) (fun H locs hP hD hS => ?_)
              obtain ⟨x65, ex65⟩ : ∃ y : Int32, y = y51 + (1 : Int32) := ⟨_, rfl⟩
              replace hf := xsLt_use ex65 hf
              refine lv_iinc (v := x65) (lv' := [(1, .int x65), (0, .ref (xsA X 100))]) hx hb dX11_lays_274 hl (k := 1) rfl (by rw [ex65]; rfl) (by decide) rfl (fun ls hl => ?_)
              refine lv_goto (tgt := 261) hx hb dX11_lays_277 (by decide) ?_
              exact ih56 _ (Option.some.inj hf).symm hk56 H locs ls hP hD hS (lv_sub hl [1, 0] rfl)
          exact L56 ((0 : Int32), y49, mFrom, mTo, (0 : Int32)) r56 hk560 hf H locs ls hP hD hS (lv_sub hl [1, 0] rfl)
        replace hf := xsBd_use hf
        obtain ⟨r44, hk440, hf⟩ := hf
        have L44 : ∀ (sg : Int32 × (Nat → Int32) × (Nat → Int32) × (Nat → Int32) × (Nat → Int32) × (Nat → Int32) × Int32) (rg : (Nat → Int32) × (Nat → Int32) × (Nat → Int32) × (Nat → Int32) × (Nat → Int32) × Int32), xsWh (fun s44 => fX11_lays_L142 mWorld y32 y33 y34 y35 s44.1 s44.2.1 s44.2.2.1 s44.2.2.2.1 s44.2.2.2.2.1 s44.2.2.2.2.2.1 s44.2.2.2.2.2.2) sg = some rg → (fX11_lays_J254 mWorld mFrom mTo y27 y28 y29 y30 y31 y32 y33 y34 y35 rg.1 rg.2.1 rg.2.2.1 rg.2.2.2.1 rg.2.2.2.2.1 rg.2.2.2.2.2 = some out → ∀ (H : Heap) (locs : List Loc) (ls : Array Slot), va_P (xsD X) vwCl (wM X mThrown mWorld mImage mDraft mEarlier mRemembered mHasImage (1 : Int32) sg.2.1 y27 y28 y29 y30 y31 y32 y33 y34 y35 sg.2.2.1 sg.2.2.2.1 sg.2.2.2.2.1 sg.2.2.2.2.2.1 mFrom mTo sg.2.2.2.2.2.2 mEdges mMet mUpper mLower mTape mTaped mPoint mEnd mBegin mFaultAt mFive mTold mActs mFar mViews mHullX mHullY mEndX mEndY mHeightUp mHeightLow mMeets mMeetsOf Rw) H → va_D (xsF X) (wM X mThrown mWorld mImage mDraft mEarlier mRemembered mHasImage (1 : Int32) sg.2.1 y27 y28 y29 y30 y31 y32 y33 y34 y35 sg.2.2.1 sg.2.2.2.1 sg.2.2.2.2.1 sg.2.2.2.2.2.1 mFrom mTo sg.2.2.2.2.2.2 mEdges mMet mUpper mLower mTape mTaped mPoint mEnd mBegin mFaultAt mFive mTold mActs mFar mViews mHullX mHullY mEndX mEndY mHeightUp mHeightLow mMeets mMeetsOf Rw) → va_S (xsF X) s.heap H locs → lv_has ls 4 [(0, .ref (xsA X 100)), (1, .int sg.1)] → W p l e { frames := 5, cells := 0, slots := 0, locals := 141 } s m ([.ref (xsA X 100)] : List Value).toArray below meth c H locs 0 0 (MQ below Qq ([.ref (xsA X 100)] : List Value).toArray s 0 0 (xsF X)) (F0 m 142 ls [])) := by
          refine xsWh_ind ?_
          intro sg r44 u44 hf ih44 hx44 hk44 H locs ls hP hD hS hl
          obtain ⟨y37, y38, y39, y40, y41, y42, y43⟩ := sg
          replace hf : fX11_lays_L142 mWorld y32 y33 y34 y35 y37 y38 y39 y40 y41 y42 y43 = some u44 := hf
          replace hl : lv_has ls 4 [(0, .ref (xsA X 100)), (1, .int y37)] := hl
          replace hP : va_P (xsD X) vwCl (wM X mThrown mWorld mImage mDraft mEarlier mRemembered mHasImage (1 : Int32) y38 y27 y28 y29 y30 y31 y32 y33 y34 y35 y39 y40 y41 y42 mFrom mTo y43 mEdges mMet mUpper mLower mTape mTaped mPoint mEnd mBegin mFaultAt mFive mTold mActs mFar mViews mHullX mHullY mEndX mEndY mHeightUp mHeightLow mMeets mMeetsOf Rw) H := hP
          replace hD : va_D (xsF X) (wM X mThrown mWorld mImage mDraft mEarlier mRemembered mHasImage (1 : Int32) y38 y27 y28 y29 y30 y31 y32 y33 y34 y35 y39 y40 y41 y42 mFrom mTo y43 mEdges mMet mUpper mLower mTape mTaped mPoint mEnd mBegin mFaultAt mFive mTold mActs mFar mViews mHullX mHullY mEndX mEndY mHeightUp mHeightLow mMeets mMeetsOf Rw) := hD
          unfold fX11_lays_L142 at hf
          refine lv_iload_n hx hb dX11_lays_142 rfl (lv_at hl 1 rfl) ?_
          refine lv_aload_n hx hb dX11_lays_143 rfl (lv_at hl 0 rfl) ?_
          refine xg_X11_193 C hP dX11_lays_144 ?_
          refine lv_icmp_ge (tgt := 254) hx hb dX11_lays_147 (by decide) (fun c105 => ?_) (fun c105 => ?_)
          · replace hf := xsBr_t c105 hf
            have ez := hx44 _ (Option.some.inj hf).symm
            subst ez
            exact K44 y38 y39 y40 y41 y42 y43 hk44 H locs ls hP hD hS (lv_sub hl [0] rfl)
          · replace hf := xsBr_f c105 hf
            refine lv_aload_n hx hb dX11_lays_150 rfl (lv_at hl 0 rfl) ?_
            refine xg_X11_48 C hP dX11_lays_151 ?_
            refine lv_iload_n hx hb dX11_lays_154 rfl (lv_at hl 1 rfl) ?_
            refine lv_iconst (v := (0 : Int32)) hx hb dX11_lays_155 (by decide) ?_
            replace hf := xsCk_use hf
            obtain ⟨h67, hf⟩ := hf
            refine xs_mBundle C hP hD hS h67 dX11_lays_156 (fun f68 ef68 H locs hP hD hS => ?_)
            replace hf := xsLt_use ef68 hf
            refine lv_aload_n hx hb dX11_lays_157 rfl (lv_at hl 0 rfl) ?_
            refine xg_X11_54 C hP dX11_lays_158 ?_
            refine lv_iload_n hx hb dX11_lays_161 rfl (lv_at hl 1 rfl) ?_
            refine lv_iconst (v := (0 : Int32)) hx hb dX11_lays_162 (by decide) ?_
            replace hf := xsCk_use hf
            obtain ⟨h69, hf⟩ := hf
            refine xs_mDegree C hP hD hS h69 dX11_lays_163 (fun f70 ef70 H locs hP hD hS => ?_)
            replace hf := xsLt_use ef70 hf
            refine lv_iconst (v := (0 : Int32)) hx hb dX11_lays_164 (by decide) ?_
            refine lv_istore_n (lv' := [(2, .int (0 : Int32)), (0, .ref (xsA X 100)), (1, .int y37)]) hx hb dX11_lays_165 rfl hl (by decide) rfl (fun ls hl => ?_)
            have K74 : ∀ (y75 : Nat → Int32) (y76 : Nat → Int32) (hf : fX11_lays_J205 y37 y39 y41 y43 f70 y75 y76 = some u44) (H : Heap) (locs : List Loc) (ls : Array Slot), va_P (xsD X) vwCl (wM X mThrown mWorld mImage mDraft mEarlier mRemembered mHasImage (1 : Int32) y75 y27 y28 y29 y30 y31 y32 y33 y34 y35 y39 y76 y41 f70 mFrom mTo y43 mEdges mMet mUpper mLower mTape mTaped mPoint mEnd mBegin mFaultAt mFive mTold mActs mFar mViews mHullX mHullY mEndX mEndY mHeightUp mHeightLow mMeets mMeetsOf Rw) H → va_D (xsF X) (wM X mThrown mWorld mImage mDraft mEarlier mRemembered mHasImage (1 : Int32) y75 y27 y28 y29 y30 y31 y32 y33 y34 y35 y39 y76 y41 f70 mFrom mTo y43 mEdges mMet mUpper mLower mTape mTaped mPoint mEnd mBegin mFaultAt mFive mTold mActs mFar mViews mHullX mHullY mEndX mEndY mHeightUp mHeightLow mMeets mMeetsOf Rw) → va_S (xsF X) s.heap H locs → lv_has ls 4 [(0, .ref (xsA X 100)), (1, .int y37)] → W p l e { frames := 5, cells := 0, slots := 0, locals := 141 } s m ([.ref (xsA X 100)] : List Value).toArray below meth c H locs 0 0 (MQ below Qq ([.ref (xsA X 100)] : List Value).toArray s 0 0 (xsF X)) (F0 m 205 ls []) := by
              intro y75 y76 hf H locs ls hP hD hS hl
              unfold fX11_lays_J205 at hf
              refine lv_aload_n hx hb dX11_lays_205 rfl (lv_at hl 0 rfl) ?_
              refine xg_X11_45 C hP dX11_lays_206 ?_
              refine lv_iload_n hx hb dX11_lays_209 rfl (lv_at hl 1 rfl) ?_
              replace hf := xsCk_use hf
              obtain ⟨h77, hf⟩ := hf
              refine xl_mCrossingOf C hP h77 dX11_lays_210 ?_
              refine lv_iconst (v := (-1 : Int32)) hx hb dX11_lays_211 (by decide) ?_
              have K84 : ∀ (y78 : Nat → Int32) (y79 : Nat → Int32) (y80 : Int32) (hf : fX11_lays_J248 y37 f70 y75 y76 y78 y79 y80 = some u44) (H : Heap) (locs : List Loc) (ls : Array Slot), va_P (xsD X) vwCl (wM X mThrown mWorld mImage mDraft mEarlier mRemembered mHasImage (1 : Int32) y75 y27 y28 y29 y30 y31 y32 y33 y34 y35 y78 y76 y79 f70 mFrom mTo y80 mEdges mMet mUpper mLower mTape mTaped mPoint mEnd mBegin mFaultAt mFive mTold mActs mFar mViews mHullX mHullY mEndX mEndY mHeightUp mHeightLow mMeets mMeetsOf Rw) H → va_D (xsF X) (wM X mThrown mWorld mImage mDraft mEarlier mRemembered mHasImage (1 : Int32) y75 y27 y28 y29 y30 y31 y32 y33 y34 y35 y78 y76 y79 f70 mFrom mTo y80 mEdges mMet mUpper mLower mTape mTaped mPoint mEnd mBegin mFaultAt mFive mTold mActs mFar mViews mHullX mHullY mEndX mEndY mHeightUp mHeightLow mMeets mMeetsOf Rw) → va_S (xsF X) s.heap H locs → lv_has ls 4 [(0, .ref (xsA X 100)), (1, .int y37)] → W p l e { frames := 5, cells := 0, slots := 0, locals := 141 } s m ([.ref (xsA X 100)] : List Value).toArray below meth c H locs 0 0 (MQ below Qq ([.ref (xsA X 100)] : List Value).toArray s 0 0 (xsF X)) (F0 m 248 ls []) := by
                intro y78 y79 y80 hf H locs ls hP hD hS hl
                unfold fX11_lays_J248 at hf
                obtain ⟨x81, ex81⟩ : ∃ y : Int32, y = y37 + (1 : Int32) := ⟨_, rfl⟩
                replace hf := xsLt_use ex81 hf
                refine lv_iinc (v := x81) (lv' := [(1, .int x81), (0, .ref (xsA X 100))]) hx hb dX11_lays_248 hl (k := 1) rfl (by rw [ex81]; rfl) (by decide) rfl (fun ls hl => ?_)
                refine lv_goto (tgt := 142) hx hb dX11_lays_251 (by decide) ?_
                exact ih44 _ (Option.some.inj hf).symm hk44 H locs ls hP hD hS (lv_sub hl [1, 0] rfl)
              replace hf := xsBd_use hf
              obtain ⟨v82, hf, hk83⟩ := hf
              refine lv_icmp_ne (tgt := 218) hx hb dX11_lays_212 (by decide) (fun c90 => ?_) (fun c90 => ?_)
              · replace hf := xsBr_f c90 hf
                refine lv_aload_n hx hb dX11_lays_218 rfl (lv_at hl 0 rfl) ?_
                refine xg_X11_45 C hP dX11_lays_219 ?_
                refine lv_iload_n hx hb dX11_lays_222 rfl (lv_at hl 1 rfl) ?_
                refine lv_aload_n hx hb dX11_lays_223 rfl (lv_at hl 0 rfl) ?_
                refine xg_X11_206 C hP dX11_lays_224 ?_
                replace hf := xsCk_use hf
                obtain ⟨h85, hf⟩ := hf
                refine xs_mCrossingOf C hP hD hS h85 dX11_lays_227 (fun f86 ef86 H locs hP hD hS => ?_)
                replace hf := xsLt_use ef86 hf
                refine lv_aload_n hx hb dX11_lays_228 rfl (lv_at hl 0 rfl) ?_
                refine xg_X11_51 C hP dX11_lays_229 ?_
                refine lv_aload_n hx hb dX11_lays_232 rfl (lv_at hl 0 rfl) ?_
                refine xg_X11_206 C hP dX11_lays_233 ?_
                refine lv_iload_n hx hb dX11_lays_236 rfl (lv_at hl 1 rfl) ?_
                replace hf := xsCk_use hf
                obtain ⟨h87, hf⟩ := hf
                refine xs_mEventOf C hP hD hS h87 dX11_lays_237 (fun f88 ef88 H locs hP hD hS => ?_)
                replace hf := xsLt_use ef88 hf
                refine lv_aload_n hx hb dX11_lays_238 rfl (lv_at hl 0 rfl) ?_
                refine lv_dup hx hb dX11_lays_239 rfl ?_
                refine xg_X11_206 C hP dX11_lays_240 ?_
                refine lv_iconst (v := (1 : Int32)) hx hb dX11_lays_243 (by decide) ?_
                refine lv_iadd hx hb dX11_lays_244 ?_
                refine lv_topi (fun x89 ex89 => ?_)
                replace hf := xsLt_use ex89 hf
                refine xp_X11_206 C hP hD hS dX11_lays_245 (fun H locs hP hD hS => ?_)
                have ev := Option.some.inj hf
                subst ev
                exact K84 f86 f88 x89 hk83 H locs ls hP hD hS (lv_sub hl [0, 1] rfl)
              · replace hf := xsBr_t c90 hf
                refine lv_goto (tgt := 248) hx hb dX11_lays_215 (by decide) ?_
                have ev := Option.some.inj hf
                subst ev
                exact K84 y39 y41 y43 hk83 H locs ls hP hD hS (lv_sub hl [0, 1] rfl)
            replace hf := xsBd_use hf
            obtain ⟨r74, hk740, hf⟩ := hf
            have L74 : ∀ (sg : Int32 × (Nat → Int32) × (Nat → Int32)) (rg : (Nat → Int32) × (Nat → Int32)), xsWh (fun s74 => fX11_lays_L166 mWorld y32 y33 y34 y37 s74.1 s74.2.1 s74.2.2) sg = some rg → (fX11_lays_J205 y37 y39 y41 y43 f70 rg.1 rg.2 = some u44 → ∀ (H : Heap) (locs : List Loc) (ls : Array Slot), va_P (xsD X) vwCl (wM X mThrown mWorld mImage mDraft mEarlier mRemembered mHasImage (1 : Int32) sg.2.1 y27 y28 y29 y30 y31 y32 y33 y34 y35 y39 sg.2.2 y41 f70 mFrom mTo y43 mEdges mMet mUpper mLower mTape mTaped mPoint mEnd mBegin mFaultAt mFive mTold mActs mFar mViews mHullX mHullY mEndX mEndY mHeightUp mHeightLow mMeets mMeetsOf Rw) H → va_D (xsF X) (wM X mThrown mWorld mImage mDraft mEarlier mRemembered mHasImage (1 : Int32) sg.2.1 y27 y28 y29 y30 y31 y32 y33 y34 y35 y39 sg.2.2 y41 f70 mFrom mTo y43 mEdges mMet mUpper mLower mTape mTaped mPoint mEnd mBegin mFaultAt mFive mTold mActs mFar mViews mHullX mHullY mEndX mEndY mHeightUp mHeightLow mMeets mMeetsOf Rw) → va_S (xsF X) s.heap H locs → lv_has ls 4 [(0, .ref (xsA X 100)), (1, .int y37), (2, .int sg.1)] → W p l e { frames := 5, cells := 0, slots := 0, locals := 141 } s m ([.ref (xsA X 100)] : List Value).toArray below meth c H locs 0 0 (MQ below Qq ([.ref (xsA X 100)] : List Value).toArray s 0 0 (xsF X)) (F0 m 166 ls [])) := by
              refine xsWh_ind ?_
              intro sg r74 u74 hf ih74 hx74 hk74 H locs ls hP hD hS hl
              obtain ⟨y71, y72, y73⟩ := sg
              replace hf : fX11_lays_L166 mWorld y32 y33 y34 y37 y71 y72 y73 = some u74 := hf
              replace hl : lv_has ls 4 [(0, .ref (xsA X 100)), (1, .int y37), (2, .int y71)] := hl
              replace hP : va_P (xsD X) vwCl (wM X mThrown mWorld mImage mDraft mEarlier mRemembered mHasImage (1 : Int32) y72 y27 y28 y29 y30 y31 y32 y33 y34 y35 y39 y73 y41 f70 mFrom mTo y43 mEdges mMet mUpper mLower mTape mTaped mPoint mEnd mBegin mFaultAt mFive mTold mActs mFar mViews mHullX mHullY mEndX mEndY mHeightUp mHeightLow mMeets mMeetsOf Rw) H := hP
              replace hD : va_D (xsF X) (wM X mThrown mWorld mImage mDraft mEarlier mRemembered mHasImage (1 : Int32) y72 y27 y28 y29 y30 y31 y32 y33 y34 y35 y39 y73 y41 f70 mFrom mTo y43 mEdges mMet mUpper mLower mTape mTaped mPoint mEnd mBegin mFaultAt mFive mTold mActs mFar mViews mHullX mHullY mEndX mEndY mHeightUp mHeightLow mMeets mMeetsOf Rw) := hD
              unfold fX11_lays_L166 at hf
              refine lv_iload_n hx hb dX11_lays_166 rfl (lv_at hl 2 rfl) ?_
              refine lv_aload_n hx hb dX11_lays_167 rfl (lv_at hl 0 rfl) ?_
              replace hf := xsBd_use hf
              obtain ⟨o91, h92, hf⟩ := hf
              refine xs_calli hS (xs_runV (As := []) C (mX11_many l  h92) w_1581 w_1583 w_44 w_115 w_1584 hd_X11_many ⟨rfl, rfl, Nat.le_of_ble_eq_true rfl, Nat.le_of_ble_eq_true rfl, Nat.zero_le _, Nat.zero_le _⟩ hP hD hS lk_X11 rfl hl.1 rfl (Nat.le_of_ble_eq_true rfl) dX11_lays_168) (fun H locs hP hD hS => ?_)
              refine lv_icmp_ge (tgt := 205) hx hb dX11_lays_171 (by decide) (fun c104 => ?_) (fun c104 => ?_)
              · replace hf := xsBr_t c104 hf
                have ez := hx74 _ (Option.some.inj hf).symm
                subst ez
                exact K74 y72 y73 hk74 H locs ls hP hD hS (lv_sub hl [0, 1] rfl)
              · replace hf := xsBr_f c104 hf
                refine lv_aload_n hx hb dX11_lays_174 rfl (lv_at hl 0 rfl) ?_
                refine xg_X11_48 C hP dX11_lays_175 ?_
                refine lv_iload_n hx hb dX11_lays_178 rfl (lv_at hl 1 rfl) ?_
                refine lv_dup2_11 hx hb dX11_lays_179 rfl rfl ?_
                replace hf := xsCk_use hf
                obtain ⟨h93, hf⟩ := hf
                refine xl_mBundle C hP h93 dX11_lays_180 ?_
                refine lv_aload_n hx hb dX11_lays_181 rfl (lv_at hl 0 rfl) ?_
                refine lv_iload_n hx hb dX11_lays_182 rfl (lv_at hl 2 rfl) ?_
                refine lv_iload_n hx hb dX11_lays_183 rfl (lv_at hl 1 rfl) ?_
                replace hf := xsBd_use hf
                obtain ⟨o94, h95, hf⟩ := hf
                refine xs_calli hS (xs_runV (As := [.int y71, .int y37]) C (mX11_has l  h95) w_1692 w_1694 w_63 w_115 w_1695 hd_X11_has ⟨rfl, rfl, Nat.le_of_ble_eq_true rfl, Nat.le_of_ble_eq_true rfl, Nat.zero_le _, Nat.zero_le _⟩ hP hD hS lk_X11 rfl hl.1 rfl (Nat.le_of_ble_eq_true rfl) dX11_lays_184) (fun H locs hP hD hS => ?_)
                have K102 : ∀ (y96 : Int32) (hf : fX11_lays_J197 y37 y71 y73 o94 y96 = some u74) (H : Heap) (locs : List Loc) (ls : Array Slot), va_P (xsD X) vwCl (wM X mThrown mWorld mImage mDraft mEarlier mRemembered mHasImage (1 : Int32) o94.2 y27 y28 y29 y30 y31 y32 y33 y34 y35 y39 y73 y41 f70 mFrom mTo y43 mEdges mMet mUpper mLower mTape mTaped mPoint mEnd mBegin mFaultAt mFive mTold mActs mFar mViews mHullX mHullY mEndX mEndY mHeightUp mHeightLow mMeets mMeetsOf Rw) H → va_D (xsF X) (wM X mThrown mWorld mImage mDraft mEarlier mRemembered mHasImage (1 : Int32) o94.2 y27 y28 y29 y30 y31 y32 y33 y34 y35 y39 y73 y41 f70 mFrom mTo y43 mEdges mMet mUpper mLower mTape mTaped mPoint mEnd mBegin mFaultAt mFive mTold mActs mFar mViews mHullX mHullY mEndX mEndY mHeightUp mHeightLow mMeets mMeetsOf Rw) → va_S (xsF X) s.heap H locs → lv_has ls 4 [(0, .ref (xsA X 100)), (1, .int y37), (2, .int y71)] → W p l e { frames := 5, cells := 0, slots := 0, locals := 141 } s m ([.ref (xsA X 100)] : List Value).toArray below meth c H locs 0 0 (MQ below Qq ([.ref (xsA X 100)] : List Value).toArray s 0 0 (xsF X)) (F0 m 197 ls [.int y96, .int (y73 y37.toNatClampNeg), .int y37, .ref (xsA X 112)]) := by
                  intro y96 hf H locs ls hP hD hS hl
                  unfold fX11_lays_J197 at hf
                  refine lv_ior hx hb dX11_lays_197 ?_
                  replace hf := xsCk_use hf
                  obtain ⟨h97, hf⟩ := hf
                  refine xs_mBundle C hP hD hS h97 dX11_lays_198 (fun f98 ef98 H locs hP hD hS => ?_)
                  replace hf := xsLt_use ef98 hf
                  obtain ⟨x99, ex99⟩ : ∃ y : Int32, y = y71 + (1 : Int32) := ⟨_, rfl⟩
                  replace hf := xsLt_use ex99 hf
                  refine lv_iinc (v := x99) (lv' := [(2, .int x99), (0, .ref (xsA X 100)), (1, .int y37)]) hx hb dX11_lays_199 hl (k := 2) rfl (by rw [ex99]; rfl) (by decide) rfl (fun ls hl => ?_)
                  refine lv_goto (tgt := 166) hx hb dX11_lays_202 (by decide) ?_
                  exact ih74 _ (Option.some.inj hf).symm hk74 H locs ls hP hD hS (lv_sub hl [1, 2, 0] rfl)
                replace hf := xsBd_use hf
                obtain ⟨v100, hf, hk101⟩ := hf
                refine lv_if_eq (tgt := 196) hx hb dX11_lays_187 (by decide) (fun c103 => ?_) (fun c103 => ?_)
                · replace hf := xsBr_t c103 hf
                  refine lv_iconst (v := (0 : Int32)) hx hb dX11_lays_196 (by decide) ?_
                  have ev := Option.some.inj hf
                  subst ev
                  exact K102 (0 : Int32) hk101 H locs ls hP hD hS (lv_sub hl [0, 1, 2] rfl)
                · replace hf := xsBr_f c103 hf
                  refine lv_iconst (v := (1 : Int32)) hx hb dX11_lays_190 (by decide) ?_
                  refine lv_iload_n hx hb dX11_lays_191 rfl (lv_at hl 2 rfl) ?_
                  refine lv_ishl hx hb dX11_lays_192 ?_
                  refine lv_goto (tgt := 197) hx hb dX11_lays_193 (by decide) ?_
                  have ev := Option.some.inj hf
                  subst ev
                  exact K102 ((1 : Int32) <<< (y71 &&& 31)) hk101 H locs ls hP hD hS (lv_sub hl [0, 1, 2] rfl)
            exact L74 ((0 : Int32), y38, f68) r74 hk740 hf H locs ls hP hD hS (lv_sub hl [1, 2, 0] rfl)
        exact L44 ((0 : Int32), y26, y36, mBundle, mEventOf, mDegree, (0 : Int32)) r44 hk440 hf H locs ls hP hD hS (lv_sub hl [1, 0] rfl)
      replace hf := xsBd_use hf
      obtain ⟨r25, hk250, hf⟩ := hf
      have L25 : ∀ (sg : Int32 × (Nat → Int32) × (Nat → Int32) × (Nat → Int32) × Int64 × Int64 × Int64 × (Nat → Int64) × (Nat → Int64) × (Nat → Int64) × Int32 × (Nat → Int32)) (rg : (Nat → Int32) × (Nat → Int32) × (Nat → Int32) × Int64 × Int64 × Int64 × (Nat → Int64) × (Nat → Int64) × (Nat → Int64) × Int32 × (Nat → Int32)), xsWh (fun s25 => fX11_lays_L76 mWorld s25.1 s25.2.1 s25.2.2.1 s25.2.2.2.1 s25.2.2.2.2.1 s25.2.2.2.2.2.1 s25.2.2.2.2.2.2.1 s25.2.2.2.2.2.2.2.1 s25.2.2.2.2.2.2.2.2.1 s25.2.2.2.2.2.2.2.2.2.1 s25.2.2.2.2.2.2.2.2.2.2.1 s25.2.2.2.2.2.2.2.2.2.2.2) sg = some rg → (fX11_lays_J135 mWorld mBundle mEventOf mDegree mFrom mTo rg.1 rg.2.1 rg.2.2.1 rg.2.2.2.1 rg.2.2.2.2.1 rg.2.2.2.2.2.1 rg.2.2.2.2.2.2.1 rg.2.2.2.2.2.2.2.1 rg.2.2.2.2.2.2.2.2.1 rg.2.2.2.2.2.2.2.2.2.1 rg.2.2.2.2.2.2.2.2.2.2 = some out → ∀ (H : Heap) (locs : List Loc) (ls : Array Slot), va_P (xsD X) vwCl (wM X mThrown mWorld mImage mDraft mEarlier mRemembered mHasImage (1 : Int32) sg.2.1 sg.2.2.1 sg.2.2.2.1 sg.2.2.2.2.1 sg.2.2.2.2.2.1 sg.2.2.2.2.2.2.1 sg.2.2.2.2.2.2.2.1 sg.2.2.2.2.2.2.2.2.1 sg.2.2.2.2.2.2.2.2.2.1 sg.2.2.2.2.2.2.2.2.2.2.1 sg.2.2.2.2.2.2.2.2.2.2.2 mBundle mEventOf mDegree mFrom mTo mCrossings mEdges mMet mUpper mLower mTape mTaped mPoint mEnd mBegin mFaultAt mFive mTold mActs mFar mViews mHullX mHullY mEndX mEndY mHeightUp mHeightLow mMeets mMeetsOf Rw) H → va_D (xsF X) (wM X mThrown mWorld mImage mDraft mEarlier mRemembered mHasImage (1 : Int32) sg.2.1 sg.2.2.1 sg.2.2.2.1 sg.2.2.2.2.1 sg.2.2.2.2.2.1 sg.2.2.2.2.2.2.1 sg.2.2.2.2.2.2.2.1 sg.2.2.2.2.2.2.2.2.1 sg.2.2.2.2.2.2.2.2.2.1 sg.2.2.2.2.2.2.2.2.2.2.1 sg.2.2.2.2.2.2.2.2.2.2.2 mBundle mEventOf mDegree mFrom mTo mCrossings mEdges mMet mUpper mLower mTape mTaped mPoint mEnd mBegin mFaultAt mFive mTold mActs mFar mViews mHullX mHullY mEndX mEndY mHeightUp mHeightLow mMeets mMeetsOf Rw) → va_S (xsF X) s.heap H locs → lv_has ls 4 [(0, .ref (xsA X 100)), (1, .int sg.1)] → W p l e { frames := 5, cells := 0, slots := 0, locals := 141 } s m ([.ref (xsA X 100)] : List Value).toArray below meth c H locs 0 0 (MQ below Qq ([.ref (xsA X 100)] : List Value).toArray s 0 0 (xsF X)) (F0 m 76 ls [])) := by
        refine xsWh_ind ?_
        intro sg r25 u25 hf ih25 hx25 hk25 H locs ls hP hD hS hl
        obtain ⟨y13, y14, y15, y16, y17, y18, y19, y20, y21, y22, y23, y24⟩ := sg
        replace hf : fX11_lays_L76 mWorld y13 y14 y15 y16 y17 y18 y19 y20 y21 y22 y23 y24 = some u25 := hf
        replace hl : lv_has ls 4 [(0, .ref (xsA X 100)), (1, .int y13)] := hl
        replace hP : va_P (xsD X) vwCl (wM X mThrown mWorld mImage mDraft mEarlier mRemembered mHasImage (1 : Int32) y14 y15 y16 y17 y18 y19 y20 y21 y22 y23 y24 mBundle mEventOf mDegree mFrom mTo mCrossings mEdges mMet mUpper mLower mTape mTaped mPoint mEnd mBegin mFaultAt mFive mTold mActs mFar mViews mHullX mHullY mEndX mEndY mHeightUp mHeightLow mMeets mMeetsOf Rw) H := hP
        replace hD : va_D (xsF X) (wM X mThrown mWorld mImage mDraft mEarlier mRemembered mHasImage (1 : Int32) y14 y15 y16 y17 y18 y19 y20 y21 y22 y23 y24 mBundle mEventOf mDegree mFrom mTo mCrossings mEdges mMet mUpper mLower mTape mTaped mPoint mEnd mBegin mFaultAt mFive mTold mActs mFar mViews mHullX mHullY mEndX mEndY mHeightUp mHeightLow mMeets mMeetsOf Rw) := hD
        unfold fX11_lays_L76 at hf
        refine lv_iload_n hx hb dX11_lays_76 rfl (lv_at hl 1 rfl) ?_
        refine lv_aload_n hx hb dX11_lays_77 rfl (lv_at hl 0 rfl) ?_
        replace hf := xsBd_use hf
        obtain ⟨o106, h107, hf⟩ := hf
        refine xs_calli hS (xs_runV (As := []) C (mX11_many l  h107) w_1581 w_1583 w_44 w_115 w_1584 hd_X11_many ⟨rfl, rfl, Nat.le_of_ble_eq_true rfl, Nat.le_of_ble_eq_true rfl, Nat.zero_le _, Nat.zero_le _⟩ hP hD hS lk_X11 rfl hl.1 rfl (Nat.le_of_ble_eq_true rfl) dX11_lays_78) (fun H locs hP hD hS => ?_)
        refine lv_icmp_ge (tgt := 135) hx hb dX11_lays_81 (by decide) (fun c150 => ?_) (fun c150 => ?_)
        · replace hf := xsBr_t c150 hf
          have ez := hx25 _ (Option.some.inj hf).symm
          subst ez
          exact K25 y14 y15 y16 y17 y18 y19 y20 y21 y22 y23 y24 hk25 H locs ls hP hD hS (lv_sub hl [0] rfl)
        · replace hf := xsBr_f c150 hf
          refine lv_iconst (v := (0 : Int32)) hx hb dX11_lays_84 (by decide) ?_
          refine lv_istore_n (lv' := [(2, .int (0 : Int32)), (0, .ref (xsA X 100)), (1, .int y13)]) hx hb dX11_lays_85 rfl hl (by decide) rfl (fun ls hl => ?_)
          have K120 : ∀ (y121 : Nat → Int32) (y122 : Nat → Int32) (y123 : Nat → Int32) (y124 : Int64) (y125 : Int64) (y126 : Int64) (y127 : Nat → Int64) (y128 : Nat → Int64) (y129 : Nat → Int64) (y130 : Int32) (y131 : Nat → Int32) (hf : fX11_lays_J129 y13 y121 y122 y123 y124 y125 y126 y127 y128 y129 y130 y131 = some u25) (H : Heap) (locs : List Loc) (ls : Array Slot), va_P (xsD X) vwCl (wM X mThrown mWorld mImage mDraft mEarlier mRemembered mHasImage (1 : Int32) y121 y122 y123 y124 y125 y126 y127 y128 y129 y130 y131 mBundle mEventOf mDegree mFrom mTo mCrossings mEdges mMet mUpper mLower mTape mTaped mPoint mEnd mBegin mFaultAt mFive mTold mActs mFar mViews mHullX mHullY mEndX mEndY mHeightUp mHeightLow mMeets mMeetsOf Rw) H → va_D (xsF X) (wM X mThrown mWorld mImage mDraft mEarlier mRemembered mHasImage (1 : Int32) y121 y122 y123 y124 y125 y126 y127 y128 y129 y130 y131 mBundle mEventOf mDegree mFrom mTo mCrossings mEdges mMet mUpper mLower mTape mTaped mPoint mEnd mBegin mFaultAt mFive mTold mActs mFar mViews mHullX mHullY mEndX mEndY mHeightUp mHeightLow mMeets mMeetsOf Rw) → va_S (xsF X) s.heap H locs → lv_has ls 4 [(0, .ref (xsA X 100)), (1, .int y13)] → W p l e { frames := 5, cells := 0, slots := 0, locals := 141 } s m ([.ref (xsA X 100)] : List Value).toArray below meth c H locs 0 0 (MQ below Qq ([.ref (xsA X 100)] : List Value).toArray s 0 0 (xsF X)) (F0 m 129 ls []) := by
            intro y121 y122 y123 y124 y125 y126 y127 y128 y129 y130 y131 hf H locs ls hP hD hS hl
            unfold fX11_lays_J129 at hf
            obtain ⟨x132, ex132⟩ : ∃ y : Int32, y = y13 + (1 : Int32) := ⟨_, rfl⟩
            replace hf := xsLt_use ex132 hf
            refine lv_iinc (v := x132) (lv' := [(1, .int x132), (0, .ref (xsA X 100))]) hx hb dX11_lays_129 hl (k := 1) rfl (by rw [ex132]; rfl) (by decide) rfl (fun ls hl => ?_)
            refine lv_goto (tgt := 76) hx hb dX11_lays_132 (by decide) ?_
            exact ih25 _ (Option.some.inj hf).symm hk25 H locs ls hP hD hS (lv_sub hl [1, 0] rfl)
          replace hf := xsBd_use hf
          obtain ⟨r120, hk1200, hf⟩ := hf
          have L120 : ∀ (sg : Int32 × (Nat → Int32) × (Nat → Int32) × (Nat → Int32) × Int64 × Int64 × Int64 × (Nat → Int64) × (Nat → Int64) × (Nat → Int64) × Int32 × (Nat → Int32)) (rg : (Nat → Int32) × (Nat → Int32) × (Nat → Int32) × Int64 × Int64 × Int64 × (Nat → Int64) × (Nat → Int64) × (Nat → Int64) × Int32 × (Nat → Int32)), xsWh (fun s120 => fX11_lays_L86 mWorld y13 s120.1 s120.2.1 s120.2.2.1 s120.2.2.2.1 s120.2.2.2.2.1 s120.2.2.2.2.2.1 s120.2.2.2.2.2.2.1 s120.2.2.2.2.2.2.2.1 s120.2.2.2.2.2.2.2.2.1 s120.2.2.2.2.2.2.2.2.2.1 s120.2.2.2.2.2.2.2.2.2.2.1 s120.2.2.2.2.2.2.2.2.2.2.2) sg = some rg → (fX11_lays_J129 y13 rg.1 rg.2.1 rg.2.2.1 rg.2.2.2.1 rg.2.2.2.2.1 rg.2.2.2.2.2.1 rg.2.2.2.2.2.2.1 rg.2.2.2.2.2.2.2.1 rg.2.2.2.2.2.2.2.2.1 rg.2.2.2.2.2.2.2.2.2.1 rg.2.2.2.2.2.2.2.2.2.2 = some u25 → ∀ (H : Heap) (locs : List Loc) (ls : Array Slot), va_P (xsD X) vwCl (wM X mThrown mWorld mImage mDraft mEarlier mRemembered mHasImage (1 : Int32) sg.2.1 sg.2.2.1 sg.2.2.2.1 sg.2.2.2.2.1 sg.2.2.2.2.2.1 sg.2.2.2.2.2.2.1 sg.2.2.2.2.2.2.2.1 sg.2.2.2.2.2.2.2.2.1 sg.2.2.2.2.2.2.2.2.2.1 sg.2.2.2.2.2.2.2.2.2.2.1 sg.2.2.2.2.2.2.2.2.2.2.2 mBundle mEventOf mDegree mFrom mTo mCrossings mEdges mMet mUpper mLower mTape mTaped mPoint mEnd mBegin mFaultAt mFive mTold mActs mFar mViews mHullX mHullY mEndX mEndY mHeightUp mHeightLow mMeets mMeetsOf Rw) H → va_D (xsF X) (wM X mThrown mWorld mImage mDraft mEarlier mRemembered mHasImage (1 : Int32) sg.2.1 sg.2.2.1 sg.2.2.2.1 sg.2.2.2.2.1 sg.2.2.2.2.2.1 sg.2.2.2.2.2.2.1 sg.2.2.2.2.2.2.2.1 sg.2.2.2.2.2.2.2.2.1 sg.2.2.2.2.2.2.2.2.2.1 sg.2.2.2.2.2.2.2.2.2.2.1 sg.2.2.2.2.2.2.2.2.2.2.2 mBundle mEventOf mDegree mFrom mTo mCrossings mEdges mMet mUpper mLower mTape mTaped mPoint mEnd mBegin mFaultAt mFive mTold mActs mFar mViews mHullX mHullY mEndX mEndY mHeightUp mHeightLow mMeets mMeetsOf Rw) → va_S (xsF X) s.heap H locs → lv_has ls 4 [(0, .ref (xsA X 100)), (1, .int y13), (2, .int sg.1)] → W p l e { frames := 5, cells := 0, slots := 0, locals := 141 } s m ([.ref (xsA X 100)] : List Value).toArray below meth c H locs 0 0 (MQ below Qq ([.ref (xsA X 100)] : List Value).toArray s 0 0 (xsF X)) (F0 m 86 ls [])) := by
            refine xsWh_ind ?_
            intro sg r120 u120 hf ih120 hx120 hk120 H locs ls hP hD hS hl
            obtain ⟨y108, y109, y110, y111, y112, y113, y114, y115, y116, y117, y118, y119⟩ := sg
            replace hf : fX11_lays_L86 mWorld y13 y108 y109 y110 y111 y112 y113 y114 y115 y116 y117 y118 y119 = some u120 := hf
            replace hl : lv_has ls 4 [(0, .ref (xsA X 100)), (1, .int y13), (2, .int y108)] := hl
            replace hP : va_P (xsD X) vwCl (wM X mThrown mWorld mImage mDraft mEarlier mRemembered mHasImage (1 : Int32) y109 y110 y111 y112 y113 y114 y115 y116 y117 y118 y119 mBundle mEventOf mDegree mFrom mTo mCrossings mEdges mMet mUpper mLower mTape mTaped mPoint mEnd mBegin mFaultAt mFive mTold mActs mFar mViews mHullX mHullY mEndX mEndY mHeightUp mHeightLow mMeets mMeetsOf Rw) H := hP
            replace hD : va_D (xsF X) (wM X mThrown mWorld mImage mDraft mEarlier mRemembered mHasImage (1 : Int32) y109 y110 y111 y112 y113 y114 y115 y116 y117 y118 y119 mBundle mEventOf mDegree mFrom mTo mCrossings mEdges mMet mUpper mLower mTape mTaped mPoint mEnd mBegin mFaultAt mFive mTold mActs mFar mViews mHullX mHullY mEndX mEndY mHeightUp mHeightLow mMeets mMeetsOf Rw) := hD
            unfold fX11_lays_L86 at hf
            refine lv_iload_n hx hb dX11_lays_86 rfl (lv_at hl 2 rfl) ?_
            refine lv_iload_n hx hb dX11_lays_87 rfl (lv_at hl 1 rfl) ?_
            refine lv_icmp_ge (tgt := 129) hx hb dX11_lays_88 (by decide) (fun c149 => ?_) (fun c149 => ?_)
            · replace hf := xsBr_t c149 hf
              have ez := hx120 _ (Option.some.inj hf).symm
              subst ez
              exact K120 y109 y110 y111 y112 y113 y114 y115 y116 y117 y118 y119 hk120 H locs ls hP hD hS (lv_sub hl [0, 1] rfl)
            · replace hf := xsBr_f c149 hf
              refine lv_aload_n hx hb dX11_lays_91 rfl (lv_at hl 0 rfl) ?_
              refine lv_iload_n hx hb dX11_lays_92 rfl (lv_at hl 1 rfl) ?_
              refine lv_iload_n hx hb dX11_lays_93 rfl (lv_at hl 2 rfl) ?_
              replace hf := xsBd_use hf
              obtain ⟨o133, h134, hf⟩ := hf
              refine xs_calli hS (xs_runV (As := [.int y13, .int y108]) C (mX11_sharesOf l  h134) w_1657 w_1659 w_58 w_115 w_1660 hd_X11_sharesOf ⟨rfl, rfl, Nat.le_of_ble_eq_true rfl, Nat.le_of_ble_eq_true rfl, Nat.zero_le _, Nat.zero_le _⟩ hP hD hS lk_X11 rfl hl.1 rfl (Nat.le_of_ble_eq_true rfl) dX11_lays_94) (fun H locs hP hD hS => ?_)
              refine lv_iconst (v := (1 : Int32)) hx hb dX11_lays_97 (by decide) ?_
              have K143 : ∀ (y135 : Nat → Int64) (y136 : Nat → Int64) (y137 : Nat → Int64) (y138 : Int32) (y139 : Nat → Int32) (hf : fX11_lays_J123 y108 o133 y135 y136 y137 y138 y139 = some u120) (H : Heap) (locs : List Loc) (ls : Array Slot), va_P (xsD X) vwCl (wM X mThrown mWorld mImage mDraft mEarlier mRemembered mHasImage (1 : Int32) o133.2.1 o133.2.2.1 o133.2.2.2.1 o133.2.2.2.2.1 o133.2.2.2.2.2.1 o133.2.2.2.2.2.2 y135 y136 y137 y138 y139 mBundle mEventOf mDegree mFrom mTo mCrossings mEdges mMet mUpper mLower mTape mTaped mPoint mEnd mBegin mFaultAt mFive mTold mActs mFar mViews mHullX mHullY mEndX mEndY mHeightUp mHeightLow mMeets mMeetsOf Rw) H → va_D (xsF X) (wM X mThrown mWorld mImage mDraft mEarlier mRemembered mHasImage (1 : Int32) o133.2.1 o133.2.2.1 o133.2.2.2.1 o133.2.2.2.2.1 o133.2.2.2.2.2.1 o133.2.2.2.2.2.2 y135 y136 y137 y138 y139 mBundle mEventOf mDegree mFrom mTo mCrossings mEdges mMet mUpper mLower mTape mTaped mPoint mEnd mBegin mFaultAt mFive mTold mActs mFar mViews mHullX mHullY mEndX mEndY mHeightUp mHeightLow mMeets mMeetsOf Rw) → va_S (xsF X) s.heap H locs → lv_has ls 4 [(0, .ref (xsA X 100)), (1, .int y13), (2, .int y108)] → W p l e { frames := 5, cells := 0, slots := 0, locals := 141 } s m ([.ref (xsA X 100)] : List Value).toArray below meth c H locs 0 0 (MQ below Qq ([.ref (xsA X 100)] : List Value).toArray s 0 0 (xsF X)) (F0 m 123 ls []) := by
                intro y135 y136 y137 y138 y139 hf H locs ls hP hD hS hl
                unfold fX11_lays_J123 at hf
                obtain ⟨x140, ex140⟩ : ∃ y : Int32, y = y108 + (1 : Int32) := ⟨_, rfl⟩
                replace hf := xsLt_use ex140 hf
                refine lv_iinc (v := x140) (lv' := [(2, .int x140), (0, .ref (xsA X 100)), (1, .int y13)]) hx hb dX11_lays_123 hl (k := 2) rfl (by rw [ex140]; rfl) (by decide) rfl (fun ls hl => ?_)
                refine lv_goto (tgt := 86) hx hb dX11_lays_126 (by decide) ?_
                exact ih120 _ (Option.some.inj hf).symm hk120 H locs ls hP hD hS (lv_sub hl [1, 2, 0] rfl)
              replace hf := xsBd_use hf
              obtain ⟨v141, hf, hk142⟩ := hf
              refine lv_icmp_ne (tgt := 123) hx hb dX11_lays_98 (by decide) (fun c148 => ?_) (fun c148 => ?_)
              · replace hf := xsBr_f c148 hf
                have ev := Option.some.inj hf
                subst ev
                exact K143 y115 y116 y117 y118 y119 hk142 H locs ls hP hD hS (lv_sub hl [0, 1, 2] rfl)
              · replace hf := xsBr_t c148 hf
                refine lv_aload_n hx hb dX11_lays_101 rfl (lv_at hl 0 rfl) ?_
                refine xg_X11_45 C hP dX11_lays_102 ?_
                refine lv_aload_n hx hb dX11_lays_105 rfl (lv_at hl 0 rfl) ?_
                refine lv_aload_n hx hb dX11_lays_106 rfl (lv_at hl 0 rfl) ?_
                refine xg_X11_147 C hP dX11_lays_107 ?_
                refine lv_aload_n hx hb dX11_lays_110 rfl (lv_at hl 0 rfl) ?_
                refine xg_X11_151 C hP dX11_lays_111 ?_
                refine lv_aload_n hx hb dX11_lays_114 rfl (lv_at hl 0 rfl) ?_
                refine xg_X11_154 C hP dX11_lays_115 ?_
                replace hf := xsBd_use hf
                obtain ⟨o144, h145, hf⟩ := hf
                refine xs_calli hS (xs_runV (As := [.long o133.2.2.2.2.1, .long o133.2.2.2.2.2.1, .long o133.2.2.2.2.2.2]) C (mX11_stands l  h145) w_1650 w_1652 w_57 w_115 w_1653 hd_X11_stands ⟨rfl, rfl, Nat.le_of_ble_eq_true rfl, Nat.le_of_ble_eq_true rfl, Nat.zero_le _, Nat.zero_le _⟩ hP hD hS lk_X11 rfl hl.1 rfl (Nat.le_of_ble_eq_true rfl) dX11_lays_118) (fun H locs hP hD hS => ?_)
                refine lv_iconst (v := (0 : Int32)) hx hb dX11_lays_121 (by decide) ?_
                replace hf := xsCk_use hf
                obtain ⟨h146, hf⟩ := hf
                refine xs_mCrossingOf C hP hD hS h146 dX11_lays_122 (fun f147 ef147 H locs hP hD hS => ?_)
                replace hf := xsLt_use ef147 hf
                have ev := Option.some.inj hf
                subst ev
                exact K143 o144.2.1 o144.2.2.1 o144.2.2.2.1 o144.2.2.2.2.1 f147 hk142 H locs ls hP hD hS (lv_sub hl [0, 1, 2] rfl)
          exact L120 ((0 : Int32), y14, y15, y16, y17, y18, y19, y20, y21, y22, y23, y24) r120 hk1200 hf H locs ls hP hD hS (lv_sub hl [1, 2, 0] rfl)
      exact L25 ((0 : Int32), mOne, mTwo, mShare, mX, mY, mD, y8, y9, y10, y11, y12) r25 hk250 hf H locs ls hP hD hS (lv_sub hl [1, 0] rfl)
    replace hf := xsBd_use hf
    obtain ⟨r7, hk70, hf⟩ := hf
    have L7 : ∀ (sg : Int32 × (Nat → Int64) × (Nat → Int64) × (Nat → Int64) × Int32 × (Nat → Int32)) (rg : (Nat → Int64) × (Nat → Int64) × (Nat → Int64) × Int32 × (Nat → Int32)), xsWh (fun s7 => fX11_lays_L20 mWorld s7.1 s7.2.1 s7.2.2.1 s7.2.2.2.1 s7.2.2.2.2.1 s7.2.2.2.2.2) sg = some rg → (fX11_lays_J74 mWorld mOne mTwo mShare mX mY mD mBundle mEventOf mDegree mFrom mTo rg.1 rg.2.1 rg.2.2.1 rg.2.2.2.1 rg.2.2.2.2 = some out → ∀ (H : Heap) (locs : List Loc) (ls : Array Slot), va_P (xsD X) vwCl (wM X mThrown mWorld mImage mDraft mEarlier mRemembered mHasImage (1 : Int32) mOne mTwo mShare mX mY mD sg.2.1 sg.2.2.1 sg.2.2.2.1 sg.2.2.2.2.1 sg.2.2.2.2.2 mBundle mEventOf mDegree mFrom mTo mCrossings mEdges mMet mUpper mLower mTape mTaped mPoint mEnd mBegin mFaultAt mFive mTold mActs mFar mViews mHullX mHullY mEndX mEndY mHeightUp mHeightLow mMeets mMeetsOf Rw) H → va_D (xsF X) (wM X mThrown mWorld mImage mDraft mEarlier mRemembered mHasImage (1 : Int32) mOne mTwo mShare mX mY mD sg.2.1 sg.2.2.1 sg.2.2.2.1 sg.2.2.2.2.1 sg.2.2.2.2.2 mBundle mEventOf mDegree mFrom mTo mCrossings mEdges mMet mUpper mLower mTape mTaped mPoint mEnd mBegin mFaultAt mFive mTold mActs mFar mViews mHullX mHullY mEndX mEndY mHeightUp mHeightLow mMeets mMeetsOf Rw) → va_S (xsF X) s.heap H locs → lv_has ls 4 [(0, .ref (xsA X 100)), (1, .int sg.1)] → W p l e { frames := 5, cells := 0, slots := 0, locals := 141 } s m ([.ref (xsA X 100)] : List Value).toArray below meth c H locs 0 0 (MQ below Qq ([.ref (xsA X 100)] : List Value).toArray s 0 0 (xsF X)) (F0 m 20 ls [])) := by
      refine xsWh_ind ?_
      intro sg r7 u7 hf ih7 hx7 hk7 H locs ls hP hD hS hl
      obtain ⟨y1, y2, y3, y4, y5, y6⟩ := sg
      replace hf : fX11_lays_L20 mWorld y1 y2 y3 y4 y5 y6 = some u7 := hf
      replace hl : lv_has ls 4 [(0, .ref (xsA X 100)), (1, .int y1)] := hl
      replace hP : va_P (xsD X) vwCl (wM X mThrown mWorld mImage mDraft mEarlier mRemembered mHasImage (1 : Int32) mOne mTwo mShare mX mY mD y2 y3 y4 y5 y6 mBundle mEventOf mDegree mFrom mTo mCrossings mEdges mMet mUpper mLower mTape mTaped mPoint mEnd mBegin mFaultAt mFive mTold mActs mFar mViews mHullX mHullY mEndX mEndY mHeightUp mHeightLow mMeets mMeetsOf Rw) H := hP
      replace hD : va_D (xsF X) (wM X mThrown mWorld mImage mDraft mEarlier mRemembered mHasImage (1 : Int32) mOne mTwo mShare mX mY mD y2 y3 y4 y5 y6 mBundle mEventOf mDegree mFrom mTo mCrossings mEdges mMet mUpper mLower mTape mTaped mPoint mEnd mBegin mFaultAt mFive mTold mActs mFar mViews mHullX mHullY mEndX mEndY mHeightUp mHeightLow mMeets mMeetsOf Rw) := hD
      unfold fX11_lays_L20 at hf
      refine lv_iload_n hx hb dX11_lays_20 rfl (lv_at hl 1 rfl) ?_
      refine lv_aload_n hx hb dX11_lays_21 rfl (lv_at hl 0 rfl) ?_
      replace hf := xsBd_use hf
      obtain ⟨o151, h152, hf⟩ := hf
      refine xs_calli hS (xs_runV (As := []) C (mX11_many l  h152) w_1581 w_1583 w_44 w_115 w_1584 hd_X11_many ⟨rfl, rfl, Nat.le_of_ble_eq_true rfl, Nat.le_of_ble_eq_true rfl, Nat.zero_le _, Nat.zero_le _⟩ hP hD hS lk_X11 rfl hl.1 rfl (Nat.le_of_ble_eq_true rfl) dX11_lays_22) (fun H locs hP hD hS => ?_)
      refine lv_icmp_ge (tgt := 74) hx hb dX11_lays_25 (by decide) (fun c166 => ?_) (fun c166 => ?_)
      · replace hf := xsBr_t c166 hf
        have ez := hx7 _ (Option.some.inj hf).symm
        subst ez
        exact K7 y2 y3 y4 y5 y6 hk7 H locs ls hP hD hS (lv_sub hl [0] rfl)
      · replace hf := xsBr_f c166 hf
        refine lv_aload_n hx hb dX11_lays_28 rfl (lv_at hl 0 rfl) ?_
        refine lv_aload_n hx hb dX11_lays_29 rfl (lv_at hl 0 rfl) ?_
        refine lv_iload_n hx hb dX11_lays_30 rfl (lv_at hl 1 rfl) ?_
        refine lv_iconst (v := (0 : Int32)) hx hb dX11_lays_31 (by decide) ?_
        replace hf := xsBd_use hf
        obtain ⟨o153, h154, hf⟩ := hf
        refine xs_calli hS (xs_runV (As := [.int y1, .int (0 : Int32)]) C (mX11_of l  h154) w_1608 w_1610 w_50 w_115 w_1611 hd_X11_of ⟨rfl, rfl, Nat.le_of_ble_eq_true rfl, Nat.le_of_ble_eq_true rfl, Nat.zero_le _, Nat.zero_le _⟩ hP hD hS lk_X11 rfl hl.1 rfl (Nat.le_of_ble_eq_true rfl) dX11_lays_32) (fun H locs hP hD hS => ?_)
        refine lv_i2l hx hb dX11_lays_35 rfl ?_
        refine lv_aload_n hx hb dX11_lays_36 rfl (lv_at hl 0 rfl) ?_
        refine lv_iload_n hx hb dX11_lays_37 rfl (lv_at hl 1 rfl) ?_
        refine lv_iconst (v := (1 : Int32)) hx hb dX11_lays_38 (by decide) ?_
        replace hf := xsBd_use hf
        obtain ⟨o155, h156, hf⟩ := hf
        refine xs_calli hS (xs_runV (As := [.int y1, .int (1 : Int32)]) C (mX11_of l  h156) w_1608 w_1610 w_50 w_115 w_1611 hd_X11_of ⟨rfl, rfl, Nat.le_of_ble_eq_true rfl, Nat.le_of_ble_eq_true rfl, Nat.zero_le _, Nat.zero_le _⟩ hP hD hS lk_X11 rfl hl.1 rfl (Nat.le_of_ble_eq_true rfl) dX11_lays_39) (fun H locs hP hD hS => ?_)
        refine lv_i2l hx hb dX11_lays_42 rfl ?_
        refine lv_lconst (v := (1 : Int64)) hx hb dX11_lays_43 (by decide) ?_
        replace hf := xsBd_use hf
        obtain ⟨o157, h158, hf⟩ := hf
        refine xs_calli hS (xs_runV (As := [.long o153.toInt64, .long o155.toInt64, .long (1 : Int64)]) C (mX11_stands l  h158) w_1650 w_1652 w_57 w_115 w_1653 hd_X11_stands ⟨rfl, rfl, Nat.le_of_ble_eq_true rfl, Nat.le_of_ble_eq_true rfl, Nat.zero_le _, Nat.zero_le _⟩ hP hD hS lk_X11 rfl hl.1 rfl (Nat.le_of_ble_eq_true rfl) dX11_lays_44) (fun H locs hP hD hS => ?_)
        refine lv_istore_n (lv' := [(2, .int o157.1), (0, .ref (xsA X 100)), (1, .int y1)]) hx hb dX11_lays_47 rfl hl (by decide) rfl (fun ls hl => ?_)
        refine lv_aload_n hx hb dX11_lays_48 rfl (lv_at hl 1 rfl) ?_
        refine lv_aload_n hx hb dX11_lays_49 rfl (lv_at hl 1 rfl) ?_
        refine lv_iload_n hx hb dX11_lays_50 rfl (lv_at hl 2 rfl) ?_
        refine lv_iconst (v := (2 : Int32)) hx hb dX11_lays_51 (by decide) ?_
        replace hf := xsBd_use hf
        obtain ⟨o159, h160, hf⟩ := hf
        refine xs_calli hS (xs_runV (As := [.int y1, .int (2 : Int32)]) C (mX11_of l  h160) w_1608 w_1610 w_50 w_115 w_1611 hd_X11_of ⟨rfl, rfl, Nat.le_of_ble_eq_true rfl, Nat.le_of_ble_eq_true rfl, Nat.zero_le _, Nat.zero_le _⟩ hP hD hS lk_X11 rfl hl.1 rfl (Nat.le_of_ble_eq_true rfl) dX11_lays_52) (fun H locs hP hD hS => ?_)
        refine lv_i2l hx hb dX11_lays_55 rfl ?_
        refine lv_aload_n hx hb dX11_lays_56 rfl (lv_at hl 1 rfl) ?_
        refine lv_iload_n hx hb dX11_lays_57 rfl (lv_at hl 2 rfl) ?_
        refine lv_iconst (v := (3 : Int32)) hx hb dX11_lays_58 (by decide) ?_
        replace hf := xsBd_use hf
        obtain ⟨o161, h162, hf⟩ := hf
        refine xs_calli hS (xs_runV (As := [.int y1, .int (3 : Int32)]) C (mX11_of l  h162) w_1608 w_1610 w_50 w_115 w_1611 hd_X11_of ⟨rfl, rfl, Nat.le_of_ble_eq_true rfl, Nat.le_of_ble_eq_true rfl, Nat.zero_le _, Nat.zero_le _⟩ hP hD hS lk_X11 rfl hl.1 rfl (Nat.le_of_ble_eq_true rfl) dX11_lays_59) (fun H locs hP hD hS => ?_)
        refine lv_i2l hx hb dX11_lays_62 rfl ?_
        refine lv_lconst (v := (1 : Int64)) hx hb dX11_lays_63 (by decide) ?_
        replace hf := xsBd_use hf
        obtain ⟨o163, h164, hf⟩ := hf
        refine xs_calli hS (xs_runV (As := [.long o159.toInt64, .long o161.toInt64, .long (1 : Int64)]) C (mX11_stands l  h164) w_1650 w_1652 w_57 w_115 w_1653 hd_X11_stands ⟨rfl, rfl, Nat.le_of_ble_eq_true rfl, Nat.le_of_ble_eq_true rfl, Nat.zero_le _, Nat.zero_le _⟩ hP hD hS lk_X11 rfl hl.1 rfl (Nat.le_of_ble_eq_true rfl) dX11_lays_64) (fun H locs hP hD hS => ?_)
        refine lv_istore_n (lv' := [(3, .int o163.1), (2, .int o157.1), (0, .ref (xsA X 100)), (1, .int y1)]) hx hb dX11_lays_67 rfl hl (by decide) rfl (fun ls hl => ?_)
        obtain ⟨x165, ex165⟩ : ∃ y : Int32, y = y1 + (1 : Int32) := ⟨_, rfl⟩
        replace hf := xsLt_use ex165 hf
        refine lv_iinc (v := x165) (lv' := [(1, .int x165), (3, .int o163.1), (2, .int o157.1), (0, .ref (xsA X 100))]) hx hb dX11_lays_68 hl (k := 3) rfl (by rw [ex165]; rfl) (by decide) rfl (fun ls hl => ?_)
        refine lv_goto (tgt := 20) hx hb dX11_lays_71 (by decide) ?_
        exact ih7 _ (Option.some.inj hf).symm hk7 H locs ls hP hD hS (lv_sub hl [3, 0] rfl)
    exact L7 ((0 : Int32), mEventX, mEventY, mEventD, (0 : Int32), mCrossingOf) r7 hk70 hf H locs ls hP hD hS (lv_sub hl [1, 0] rfl)
  · replace hf := xsBr_f c167 hf
    have ho := Option.some.inj hf
    subst ho
    rw [hQq]
    exact xs_vret C hr hlk hP hD hS dX11_lays_7
set_option maxRecDepth 100000 in
set_option maxHeartbeats 8000000 in
theorem mX11_isUpright (l : Launch) {X : xsX} {mThrown mRemembered mHasImage mIsLaid mEvents mCrossings mEdges mTaped mPoint mEnd mBegin mFaultAt mActs : Int32} {mWorld mImage mDraft mEarlier mOne mTwo mShare mCrossingOf mBundle mEventOf mDegree mFrom mTo mMet mTape mFive mTold mFar mViews mHullX mHullY mEndX mEndY mMeets mMeetsOf : Nat → Int32} {mX mY mD mHeightUp mHeightLow : Int64} {mEventX mEventY mEventD mUpper mLower : Nat → Int64} {Rw : va_W} {a0 : Int32} {out : Int32} (hf : fX11_isUpright mWorld a0 = some out) : Met l yX11_isUpright (xsWs yX11_isUpright cX11_isUpright 2 (some .boolean)) { frames := 1, cells := 0, slots := 0, locals := 22 } (xsP X (wM X mThrown mWorld mImage mDraft mEarlier mRemembered mHasImage mIsLaid mOne mTwo mShare mX mY mD mEventX mEventY mEventD mEvents mCrossingOf mBundle mEventOf mDegree mFrom mTo mCrossings mEdges mMet mUpper mLower mTape mTaped mPoint mEnd mBegin mFaultAt mFive mTold mActs mFar mViews mHullX mHullY mEndX mEndY mHeightUp mHeightLow mMeets mMeetsOf Rw) [.ref (xsA X 100), .int a0]) (xsQi X out (wM X mThrown mWorld mImage mDraft mEarlier mRemembered mHasImage mIsLaid mOne mTwo mShare mX mY mD mEventX mEventY mEventD mEvents mCrossingOf mBundle mEventOf mDegree mFrom mTo mCrossings mEdges mMet mUpper mLower mTape mTaped mPoint mEnd mBegin mFaultAt mFive mTold mActs mFar mViews mHullX mHullY mEndX mEndY mHeightUp mHeightLow mMeets mMeetsOf Rw)) 0 0 (xsF X) := by
  refine xs_meth RX11 (by decide) rfl (Nat.le_of_ble_eq_true rfl) ?_
  intro p e s m below meth c ls H locs C hP hD hS hr hlk hl
  have hx := C.1
  have hb := C.2.1
  have hl : lv_has ls 2 [(0, .ref (xsA X 100)), (1, .int a0)] := hl
  obtain ⟨Qq, hQq⟩ : ∃ Qq, Qq = xsQi X out (wM X mThrown mWorld mImage mDraft mEarlier mRemembered mHasImage mIsLaid mOne mTwo mShare mX mY mD mEventX mEventY mEventD mEvents mCrossingOf mBundle mEventOf mDegree mFrom mTo mCrossings mEdges mMet mUpper mLower mTape mTaped mPoint mEnd mBegin mFaultAt mFive mTold mActs mFar mViews mHullX mHullY mEndX mEndY mHeightUp mHeightLow mMeets mMeetsOf Rw) := ⟨_, rfl⟩
  rw [← hQq]
  unfold fX11_isUpright at hf
  refine lv_aload_n hx hb dX11_isUpright_0 rfl (lv_at hl 0 rfl) ?_
  refine lv_iload_n hx hb dX11_isUpright_1 rfl (lv_at hl 1 rfl) ?_
  refine lv_iconst (v := (0 : Int32)) hx hb dX11_isUpright_2 (by decide) ?_
  replace hf := xsBd_use hf
  obtain ⟨o1, h2, hf⟩ := hf
  refine xs_calli hS (xs_runV (As := [.int a0, .int (0 : Int32)]) C (mX11_of l  h2) w_1608 w_1610 w_50 w_115 w_1611 hd_X11_of ⟨rfl, rfl, Nat.le_of_ble_eq_true rfl, Nat.le_of_ble_eq_true rfl, Nat.zero_le _, Nat.zero_le _⟩ hP hD hS lk_X11 rfl hl.1 rfl (Nat.le_of_ble_eq_true rfl) dX11_isUpright_3) (fun H locs hP hD hS => ?_)
  refine lv_aload_n hx hb dX11_isUpright_6 rfl (lv_at hl 0 rfl) ?_
  refine lv_iload_n hx hb dX11_isUpright_7 rfl (lv_at hl 1 rfl) ?_
  refine lv_iconst (v := (2 : Int32)) hx hb dX11_isUpright_8 (by decide) ?_
  replace hf := xsBd_use hf
  obtain ⟨o3, h4, hf⟩ := hf
  refine xs_calli hS (xs_runV (As := [.int a0, .int (2 : Int32)]) C (mX11_of l  h4) w_1608 w_1610 w_50 w_115 w_1611 hd_X11_of ⟨rfl, rfl, Nat.le_of_ble_eq_true rfl, Nat.le_of_ble_eq_true rfl, Nat.zero_le _, Nat.zero_le _⟩ hP hD hS lk_X11 rfl hl.1 rfl (Nat.le_of_ble_eq_true rfl) dX11_isUpright_9) (fun H locs hP hD hS => ?_)
  refine lv_icmp_ne (tgt := 19) hx hb dX11_isUpright_12 (by decide) (fun c5 => ?_) (fun c5 => ?_)
  · replace hf := xsBr_f c5 hf
    refine lv_iconst (v := (0 : Int32)) hx hb dX11_isUpright_19 (by decide) ?_
    have ho := Option.some.inj hf
    subst ho
    rw [hQq]
    exact xs_zret C hr hlk xsB_0 hP hD hS dX11_isUpright_20
  · replace hf := xsBr_t c5 hf
    refine lv_iconst (v := (1 : Int32)) hx hb dX11_isUpright_15 (by decide) ?_
    refine lv_goto (tgt := 20) hx hb dX11_isUpright_16 (by decide) ?_
    have ho := Option.some.inj hf
    subst ho
    rw [hQq]
    exact xs_zret C hr hlk xsB_1 hP hD hS dX11_isUpright_20
set_option maxRecDepth 100000 in
set_option maxHeartbeats 8000000 in
theorem mX11_laysY (l : Launch) {X : xsX} {mThrown mRemembered mHasImage mIsLaid mEvents mCrossings mEdges mTaped mPoint mEnd mBegin mFaultAt mActs : Int32} {mWorld mImage mDraft mEarlier mOne mTwo mShare mCrossingOf mBundle mEventOf mDegree mFrom mTo mMet mTape mFive mTold mFar mViews mHullX mHullY mEndX mEndY mMeets mMeetsOf : Nat → Int32} {mX mY mD mHeightUp mHeightLow : Int64} {mEventX mEventY mEventD mUpper mLower : Nat → Int64} {Rw : va_W} {a0 : Int32} {a1 : Int32} {out : (Nat → Int64) × (Nat → Int64)} (hf : fX11_laysY mWorld mEventX mEventY mEventD mUpper mLower a0 a1 = some out) : Met l yX11_laysY (xsWs yX11_laysY cX11_laysY 7 none) { frames := 1, cells := 0, slots := 0, locals := 22 } (xsP X (wM X mThrown mWorld mImage mDraft mEarlier mRemembered mHasImage mIsLaid mOne mTwo mShare mX mY mD mEventX mEventY mEventD mEvents mCrossingOf mBundle mEventOf mDegree mFrom mTo mCrossings mEdges mMet mUpper mLower mTape mTaped mPoint mEnd mBegin mFaultAt mFive mTold mActs mFar mViews mHullX mHullY mEndX mEndY mHeightUp mHeightLow mMeets mMeetsOf Rw) [.ref (xsA X 100), .int a0, .int a1]) (xsQv X (wM X mThrown mWorld mImage mDraft mEarlier mRemembered mHasImage mIsLaid mOne mTwo mShare mX mY mD mEventX mEventY mEventD mEvents mCrossingOf mBundle mEventOf mDegree mFrom mTo mCrossings mEdges mMet out.1 out.2 mTape mTaped mPoint mEnd mBegin mFaultAt mFive mTold mActs mFar mViews mHullX mHullY mEndX mEndY mHeightUp mHeightLow mMeets mMeetsOf Rw)) 0 0 (xsF X) := by
  refine xs_meth RX11 (by decide) rfl (Nat.le_of_ble_eq_true rfl) ?_
  intro p e s m below meth c ls H locs C hP hD hS hr hlk hl
  have hx := C.1
  have hb := C.2.1
  have hl : lv_has ls 7 [(0, .ref (xsA X 100)), (1, .int a0), (2, .int a1)] := hl
  obtain ⟨Qq, hQq⟩ : ∃ Qq, Qq = xsQv X (wM X mThrown mWorld mImage mDraft mEarlier mRemembered mHasImage mIsLaid mOne mTwo mShare mX mY mD mEventX mEventY mEventD mEvents mCrossingOf mBundle mEventOf mDegree mFrom mTo mCrossings mEdges mMet out.1 out.2 mTape mTaped mPoint mEnd mBegin mFaultAt mFive mTold mActs mFar mViews mHullX mHullY mEndX mEndY mHeightUp mHeightLow mMeets mMeetsOf Rw) := ⟨_, rfl⟩
  rw [← hQq]
  unfold fX11_laysY at hf
  refine lv_aload_n hx hb dX11_laysY_0 rfl (lv_at hl 0 rfl) ?_
  refine lv_iload_n hx hb dX11_laysY_1 rfl (lv_at hl 1 rfl) ?_
  refine lv_iconst (v := (2 : Int32)) hx hb dX11_laysY_2 (by decide) ?_
  replace hf := xsBd_use hf
  obtain ⟨o1, h2, hf⟩ := hf
  refine xs_calli hS (xs_runV (As := [.int a0, .int (2 : Int32)]) C (mX11_of l  h2) w_1608 w_1610 w_50 w_115 w_1611 hd_X11_of ⟨rfl, rfl, Nat.le_of_ble_eq_true rfl, Nat.le_of_ble_eq_true rfl, Nat.zero_le _, Nat.zero_le _⟩ hP hD hS lk_X11 rfl hl.1 rfl (Nat.le_of_ble_eq_true rfl) dX11_laysY_3) (fun H locs hP hD hS => ?_)
  refine lv_aload_n hx hb dX11_laysY_6 rfl (lv_at hl 0 rfl) ?_
  refine lv_iload_n hx hb dX11_laysY_7 rfl (lv_at hl 1 rfl) ?_
  refine lv_iconst (v := (0 : Int32)) hx hb dX11_laysY_8 (by decide) ?_
  replace hf := xsBd_use hf
  obtain ⟨o3, h4, hf⟩ := hf
  refine xs_calli hS (xs_runV (As := [.int a0, .int (0 : Int32)]) C (mX11_of l  h4) w_1608 w_1610 w_50 w_115 w_1611 hd_X11_of ⟨rfl, rfl, Nat.le_of_ble_eq_true rfl, Nat.le_of_ble_eq_true rfl, Nat.zero_le _, Nat.zero_le _⟩ hP hD hS lk_X11 rfl hl.1 rfl (Nat.le_of_ble_eq_true rfl) dX11_laysY_9) (fun H locs hP hD hS => ?_)
  refine lv_isub hx hb dX11_laysY_12 ?_
  refine lv_i2l hx hb dX11_laysY_13 rfl ?_
  refine lv_topl (fun x5 ex5 => ?_)
  replace hf := xsLt_use ex5 hf
  refine lv_lstore_n (lv' := [(3, .long x5), (0, .ref (xsA X 100)), (1, .int a0), (2, .int a1)]) hx hb dX11_laysY_14 rfl hl (by decide) rfl (fun ls hl => ?_)
  refine lv_aload_n hx hb dX11_laysY_15 rfl (lv_at hl 1 rfl) ?_
  refine lv_iload_n hx hb dX11_laysY_16 rfl (lv_at hl 2 rfl) ?_
  refine lv_iconst (v := (3 : Int32)) hx hb dX11_laysY_17 (by decide) ?_
  replace hf := xsBd_use hf
  obtain ⟨o6, h7, hf⟩ := hf
  refine xs_calli hS (xs_runV (As := [.int a0, .int (3 : Int32)]) C (mX11_of l  h7) w_1608 w_1610 w_50 w_115 w_1611 hd_X11_of ⟨rfl, rfl, Nat.le_of_ble_eq_true rfl, Nat.le_of_ble_eq_true rfl, Nat.zero_le _, Nat.zero_le _⟩ hP hD hS lk_X11 rfl hl.1 rfl (Nat.le_of_ble_eq_true rfl) dX11_laysY_18) (fun H locs hP hD hS => ?_)
  refine lv_aload_n hx hb dX11_laysY_21 rfl (lv_at hl 1 rfl) ?_
  refine lv_iload_n hx hb dX11_laysY_22 rfl (lv_at hl 2 rfl) ?_
  refine lv_iconst (v := (1 : Int32)) hx hb dX11_laysY_23 (by decide) ?_
  replace hf := xsBd_use hf
  obtain ⟨o8, h9, hf⟩ := hf
  refine xs_calli hS (xs_runV (As := [.int a0, .int (1 : Int32)]) C (mX11_of l  h9) w_1608 w_1610 w_50 w_115 w_1611 hd_X11_of ⟨rfl, rfl, Nat.le_of_ble_eq_true rfl, Nat.le_of_ble_eq_true rfl, Nat.zero_le _, Nat.zero_le _⟩ hP hD hS lk_X11 rfl hl.1 rfl (Nat.le_of_ble_eq_true rfl) dX11_laysY_24) (fun H locs hP hD hS => ?_)
  refine lv_isub hx hb dX11_laysY_27 ?_
  refine lv_i2l hx hb dX11_laysY_28 rfl ?_
  refine lv_topl (fun x10 ex10 => ?_)
  replace hf := xsLt_use ex10 hf
  refine lv_lstore (lv' := [(5, .long x10), (3, .long x5), (0, .ref (xsA X 100)), (1, .int a0), (2, .int a1)]) hx hb dX11_laysY_29 hl (by decide) rfl (fun ls hl => ?_)
  refine lv_aload_n hx hb dX11_laysY_31 rfl (lv_at hl 2 rfl) ?_
  refine xg_X11_69 C hP dX11_laysY_32 ?_
  refine lv_iload_n hx hb dX11_laysY_35 rfl (lv_at hl 3 rfl) ?_
  refine lv_lload_n hx hb dX11_laysY_36 rfl (lv_at hl 1 rfl) ?_
  refine lv_lconst (v := (0 : Int64)) hx hb dX11_laysY_37 (by decide) ?_
  have K31 : ∀ (y11 : Int64) (hf : fX11_laysY_J47 mWorld mEventX mEventY mEventD mUpper mLower a0 a1 x5 x10 y11 = some out) (H : Heap) (locs : List Loc) (ls : Array Slot), va_P (xsD X) vwCl (wM X mThrown mWorld mImage mDraft mEarlier mRemembered mHasImage mIsLaid mOne mTwo mShare mX mY mD mEventX mEventY mEventD mEvents mCrossingOf mBundle mEventOf mDegree mFrom mTo mCrossings mEdges mMet mUpper mLower mTape mTaped mPoint mEnd mBegin mFaultAt mFive mTold mActs mFar mViews mHullX mHullY mEndX mEndY mHeightUp mHeightLow mMeets mMeetsOf Rw) H → va_D (xsF X) (wM X mThrown mWorld mImage mDraft mEarlier mRemembered mHasImage mIsLaid mOne mTwo mShare mX mY mD mEventX mEventY mEventD mEvents mCrossingOf mBundle mEventOf mDegree mFrom mTo mCrossings mEdges mMet mUpper mLower mTape mTaped mPoint mEnd mBegin mFaultAt mFive mTold mActs mFar mViews mHullX mHullY mEndX mEndY mHeightUp mHeightLow mMeets mMeetsOf Rw) → va_S (xsF X) s.heap H locs → lv_has ls 7 [(0, .ref (xsA X 100)), (1, .int a0), (2, .int a1), (3, .long x5), (5, .long x10)] → W p l e { frames := 1, cells := 0, slots := 0, locals := 22 } s m ([.ref (xsA X 100), .int a0, .int a1] : List Value).toArray below meth c H locs 0 0 (MQ below Qq ([.ref (xsA X 100), .int a0, .int a1] : List Value).toArray s 0 0 (xsF X)) (F0 m 47 ls [.long y11, .int a0, .ref (xsA X 119)]) := by
    intro y11 hf H locs ls hP hD hS hl
    unfold fX11_laysY_J47 at hf
    replace hf := xsCk_use hf
    obtain ⟨h12, hf⟩ := hf
    refine xs_mLower C hP hD hS h12 dX11_laysY_47 (fun f13 ef13 H locs hP hD hS => ?_)
    replace hf := xsLt_use ef13 hf
    refine lv_aload_n hx hb dX11_laysY_48 rfl (lv_at hl 0 rfl) ?_
    refine xg_X11_66 C hP dX11_laysY_49 ?_
    refine lv_iload_n hx hb dX11_laysY_52 rfl (lv_at hl 1 rfl) ?_
    refine lv_lload_n hx hb dX11_laysY_53 rfl (lv_at hl 3 rfl) ?_
    refine lv_lconst (v := (0 : Int64)) hx hb dX11_laysY_54 (by decide) ?_
    have K19 : ∀ (y14 : Int64) (hf : fX11_laysY_J109 mUpper a0 f13 y14 = some out) (H : Heap) (locs : List Loc) (ls : Array Slot), va_P (xsD X) vwCl (wM X mThrown mWorld mImage mDraft mEarlier mRemembered mHasImage mIsLaid mOne mTwo mShare mX mY mD mEventX mEventY mEventD mEvents mCrossingOf mBundle mEventOf mDegree mFrom mTo mCrossings mEdges mMet mUpper f13 mTape mTaped mPoint mEnd mBegin mFaultAt mFive mTold mActs mFar mViews mHullX mHullY mEndX mEndY mHeightUp mHeightLow mMeets mMeetsOf Rw) H → va_D (xsF X) (wM X mThrown mWorld mImage mDraft mEarlier mRemembered mHasImage mIsLaid mOne mTwo mShare mX mY mD mEventX mEventY mEventD mEvents mCrossingOf mBundle mEventOf mDegree mFrom mTo mCrossings mEdges mMet mUpper f13 mTape mTaped mPoint mEnd mBegin mFaultAt mFive mTold mActs mFar mViews mHullX mHullY mEndX mEndY mHeightUp mHeightLow mMeets mMeetsOf Rw) → va_S (xsF X) s.heap H locs → lv_has ls 7 [] → W p l e { frames := 1, cells := 0, slots := 0, locals := 22 } s m ([.ref (xsA X 100), .int a0, .int a1] : List Value).toArray below meth c H locs 0 0 (MQ below Qq ([.ref (xsA X 100), .int a0, .int a1] : List Value).toArray s 0 0 (xsF X)) (F0 m 109 ls [.long y14, .int a0, .ref (xsA X 118)]) := by
      intro y14 hf H locs ls hP hD hS hl
      unfold fX11_laysY_J109 at hf
      replace hf := xsCk_use hf
      obtain ⟨h15, hf⟩ := hf
      refine xs_mUpper C hP hD hS h15 dX11_laysY_109 (fun f16 ef16 H locs hP hD hS => ?_)
      replace hf := xsLt_use ef16 hf
      have ho := Option.some.inj hf
      subst ho
      rw [hQq]
      exact xs_vret C hr hlk hP hD hS dX11_laysY_110
    replace hf := xsBd_use hf
    obtain ⟨v17, hf, hk18⟩ := hf
    refine xs_lcmp_ne (tgt := 68) C dX11_laysY_55 dX11_laysY_56 (by decide) (fun c28 => ?_) (fun c28 => ?_)
    · replace hf := xsBr_f c28 hf
      refine lv_aload_n hx hb dX11_laysY_68 rfl (lv_at hl 0 rfl) ?_
      refine lv_iload_n hx hb dX11_laysY_69 rfl (lv_at hl 1 rfl) ?_
      refine lv_iconst (v := (1 : Int32)) hx hb dX11_laysY_70 (by decide) ?_
      replace hf := xsBd_use hf
      obtain ⟨o20, h21, hf⟩ := hf
      refine xs_calli hS (xs_runV (As := [.int a0, .int (1 : Int32)]) C (mX11_of l  h21) w_1608 w_1610 w_50 w_115 w_1611 hd_X11_of ⟨rfl, rfl, Nat.le_of_ble_eq_true rfl, Nat.le_of_ble_eq_true rfl, Nat.zero_le _, Nat.zero_le _⟩ hP hD hS lk_X11 rfl hl.1 rfl (Nat.le_of_ble_eq_true rfl) dX11_laysY_71) (fun H locs hP hD hS => ?_)
      refine lv_i2l hx hb dX11_laysY_74 rfl ?_
      refine lv_lload_n hx hb dX11_laysY_75 rfl (lv_at hl 3 rfl) ?_
      refine lv_lmul hx hb dX11_laysY_76 ?_
      refine lv_aload_n hx hb dX11_laysY_77 rfl (lv_at hl 0 rfl) ?_
      refine xg_X11_42 C hP dX11_laysY_78 ?_
      refine lv_iload_n hx hb dX11_laysY_81 rfl (lv_at hl 2 rfl) ?_
      replace hf := xsCk_use hf
      obtain ⟨h22, hf⟩ := hf
      refine xl_mEventD C hP h22 dX11_laysY_82 ?_
      refine lv_lmul hx hb dX11_laysY_83 ?_
      refine lv_lload hx hb dX11_laysY_84 (lv_at hl 4 rfl) ?_
      refine lv_aload_n hx hb dX11_laysY_86 rfl (lv_at hl 0 rfl) ?_
      refine xg_X11_35 C hP dX11_laysY_87 ?_
      refine lv_iload_n hx hb dX11_laysY_90 rfl (lv_at hl 2 rfl) ?_
      replace hf := xsCk_use hf
      obtain ⟨h23, hf⟩ := hf
      refine xl_mEventX C hP h23 dX11_laysY_91 ?_
      refine lv_aload_n hx hb dX11_laysY_92 rfl (lv_at hl 0 rfl) ?_
      refine lv_iload_n hx hb dX11_laysY_93 rfl (lv_at hl 1 rfl) ?_
      refine lv_iconst (v := (0 : Int32)) hx hb dX11_laysY_94 (by decide) ?_
      replace hf := xsBd_use hf
      obtain ⟨o24, h25, hf⟩ := hf
      refine xs_calli hS (xs_runV (As := [.int a0, .int (0 : Int32)]) C (mX11_of l  h25) w_1608 w_1610 w_50 w_115 w_1611 hd_X11_of ⟨rfl, rfl, Nat.le_of_ble_eq_true rfl, Nat.le_of_ble_eq_true rfl, Nat.zero_le _, Nat.zero_le _⟩ hP hD hS lk_X11 rfl hl.1 rfl (Nat.le_of_ble_eq_true rfl) dX11_laysY_95) (fun H locs hP hD hS => ?_)
      refine lv_i2l hx hb dX11_laysY_98 rfl ?_
      refine lv_aload_n hx hb dX11_laysY_99 rfl (lv_at hl 0 rfl) ?_
      refine xg_X11_42 C hP dX11_laysY_100 ?_
      refine lv_iload_n hx hb dX11_laysY_103 rfl (lv_at hl 2 rfl) ?_
      replace hf := xsCk_use hf
      obtain ⟨h26, hf⟩ := hf
      refine xl_mEventD C hP h26 dX11_laysY_104 ?_
      refine lv_lmul hx hb dX11_laysY_105 ?_
      refine lv_lsub hx hb dX11_laysY_106 ?_
      refine lv_lmul hx hb dX11_laysY_107 ?_
      refine lv_ladd hx hb dX11_laysY_108 ?_
      have ev := Option.some.inj hf
      subst ev
      exact K19 (((o20.toInt64 * x5) * (mEventD a1.toNatClampNeg)) + (x10 * ((mEventX a1.toNatClampNeg) - (o24.toInt64 * (mEventD a1.toNatClampNeg))))) hk18 H locs ls hP hD hS (lv_sub hl [] rfl)
    · replace hf := xsBr_t c28 hf
      refine lv_aload_n hx hb dX11_laysY_59 rfl (lv_at hl 0 rfl) ?_
      refine xg_X11_39 C hP dX11_laysY_60 ?_
      refine lv_iload_n hx hb dX11_laysY_63 rfl (lv_at hl 2 rfl) ?_
      replace hf := xsCk_use hf
      obtain ⟨h27, hf⟩ := hf
      refine xl_mEventY C hP h27 dX11_laysY_64 ?_
      refine lv_goto (tgt := 109) hx hb dX11_laysY_65 (by decide) ?_
      have ev := Option.some.inj hf
      subst ev
      exact K19 (mEventY a1.toNatClampNeg) hk18 H locs ls hP hD hS (lv_sub hl [] rfl)
  replace hf := xsBd_use hf
  obtain ⟨v29, hf, hk30⟩ := hf
  refine xs_lcmp_ne (tgt := 46) C dX11_laysY_38 dX11_laysY_39 (by decide) (fun c32 => ?_) (fun c32 => ?_)
  · replace hf := xsBr_f c32 hf
    refine lv_lload_n hx hb dX11_laysY_46 rfl (lv_at hl 1 rfl) ?_
    have ev := Option.some.inj hf
    subst ev
    exact K31 x5 hk30 H locs ls hP hD hS (lv_sub hl [2, 3, 4, 1, 0] rfl)
  · replace hf := xsBr_t c32 hf
    refine lv_lconst (v := (1 : Int64)) hx hb dX11_laysY_42 (by decide) ?_
    refine lv_goto (tgt := 47) hx hb dX11_laysY_43 (by decide) ?_
    have ev := Option.some.inj hf
    subst ev
    exact K31 (1 : Int64) hk30 H locs ls hP hD hS (lv_sub hl [2, 3, 4, 1, 0] rfl)
set_option maxRecDepth 100000 in
set_option maxHeartbeats 8000000 in
theorem mX11_rises (l : Launch) {X : xsX} {mThrown mRemembered mHasImage mIsLaid mEvents mCrossings mEdges mTaped mPoint mEnd mBegin mFaultAt mActs : Int32} {mWorld mImage mDraft mEarlier mOne mTwo mShare mCrossingOf mBundle mEventOf mDegree mFrom mTo mMet mTape mFive mTold mFar mViews mHullX mHullY mEndX mEndY mMeets mMeetsOf : Nat → Int32} {mX mY mD mHeightUp mHeightLow : Int64} {mEventX mEventY mEventD mUpper mLower : Nat → Int64} {Rw : va_W} {a0 : Int32} {a1 : Int32} {out : Int32} (hf : fX11_rises mWorld a0 a1 = some out) : Met l yX11_rises (xsWs yX11_rises cX11_rises 3 (some .int)) { frames := 2, cells := 0, slots := 0, locals := 43 } (xsP X (wM X mThrown mWorld mImage mDraft mEarlier mRemembered mHasImage mIsLaid mOne mTwo mShare mX mY mD mEventX mEventY mEventD mEvents mCrossingOf mBundle mEventOf mDegree mFrom mTo mCrossings mEdges mMet mUpper mLower mTape mTaped mPoint mEnd mBegin mFaultAt mFive mTold mActs mFar mViews mHullX mHullY mEndX mEndY mHeightUp mHeightLow mMeets mMeetsOf Rw) [.ref (xsA X 100), .int a0, .int a1]) (xsQi X out (wM X mThrown mWorld mImage mDraft mEarlier mRemembered mHasImage mIsLaid mOne mTwo mShare mX mY mD mEventX mEventY mEventD mEvents mCrossingOf mBundle mEventOf mDegree mFrom mTo mCrossings mEdges mMet mUpper mLower mTape mTaped mPoint mEnd mBegin mFaultAt mFive mTold mActs mFar mViews mHullX mHullY mEndX mEndY mHeightUp mHeightLow mMeets mMeetsOf Rw)) 0 0 (xsF X) := by
  refine xs_meth RX11 (by decide) rfl (Nat.le_of_ble_eq_true rfl) ?_
  intro p e s m below meth c ls H locs C hP hD hS hr hlk hl
  have hx := C.1
  have hb := C.2.1
  have hl : lv_has ls 3 [(0, .ref (xsA X 100)), (1, .int a0), (2, .int a1)] := hl
  obtain ⟨Qq, hQq⟩ : ∃ Qq, Qq = xsQi X out (wM X mThrown mWorld mImage mDraft mEarlier mRemembered mHasImage mIsLaid mOne mTwo mShare mX mY mD mEventX mEventY mEventD mEvents mCrossingOf mBundle mEventOf mDegree mFrom mTo mCrossings mEdges mMet mUpper mLower mTape mTaped mPoint mEnd mBegin mFaultAt mFive mTold mActs mFar mViews mHullX mHullY mEndX mEndY mHeightUp mHeightLow mMeets mMeetsOf Rw) := ⟨_, rfl⟩
  rw [← hQq]
  unfold fX11_rises at hf
  refine lv_aload_n hx hb dX11_rises_0 rfl (lv_at hl 0 rfl) ?_
  refine lv_iload_n hx hb dX11_rises_1 rfl (lv_at hl 1 rfl) ?_
  replace hf := xsBd_use hf
  obtain ⟨o1, h2, hf⟩ := hf
  refine xs_calli hS (xs_runV (As := [.int a0]) C (mX11_isUpright l  h2) w_1728 w_1730 w_67 w_115 w_1731 hd_X11_isUpright ⟨rfl, rfl, Nat.le_of_ble_eq_true rfl, Nat.le_of_ble_eq_true rfl, Nat.zero_le _, Nat.zero_le _⟩ hP hD hS lk_X11 rfl hl.1 rfl (Nat.le_of_ble_eq_true rfl) dX11_rises_2) (fun H locs hP hD hS => ?_)
  have K17 : ∀ (hf : fX11_rises_J16 mWorld a0 a1 = some out) (H : Heap) (locs : List Loc) (ls : Array Slot), va_P (xsD X) vwCl (wM X mThrown mWorld mImage mDraft mEarlier mRemembered mHasImage mIsLaid mOne mTwo mShare mX mY mD mEventX mEventY mEventD mEvents mCrossingOf mBundle mEventOf mDegree mFrom mTo mCrossings mEdges mMet mUpper mLower mTape mTaped mPoint mEnd mBegin mFaultAt mFive mTold mActs mFar mViews mHullX mHullY mEndX mEndY mHeightUp mHeightLow mMeets mMeetsOf Rw) H → va_D (xsF X) (wM X mThrown mWorld mImage mDraft mEarlier mRemembered mHasImage mIsLaid mOne mTwo mShare mX mY mD mEventX mEventY mEventD mEvents mCrossingOf mBundle mEventOf mDegree mFrom mTo mCrossings mEdges mMet mUpper mLower mTape mTaped mPoint mEnd mBegin mFaultAt mFive mTold mActs mFar mViews mHullX mHullY mEndX mEndY mHeightUp mHeightLow mMeets mMeetsOf Rw) → va_S (xsF X) s.heap H locs → lv_has ls 3 [(0, .ref (xsA X 100)), (1, .int a0), (2, .int a1)] → W p l e { frames := 2, cells := 0, slots := 0, locals := 43 } s m ([.ref (xsA X 100), .int a0, .int a1] : List Value).toArray below meth c H locs 0 0 (MQ below Qq ([.ref (xsA X 100), .int a0, .int a1] : List Value).toArray s 0 0 (xsF X)) (F0 m 16 ls []) := by
    intro hf H locs ls hP hD hS hl
    unfold fX11_rises_J16 at hf
    refine lv_aload_n hx hb dX11_rises_16 rfl (lv_at hl 0 rfl) ?_
    refine lv_iload_n hx hb dX11_rises_17 rfl (lv_at hl 1 rfl) ?_
    replace hf := xsBd_use hf
    obtain ⟨o3, h4, hf⟩ := hf
    refine xs_calli hS (xs_runV (As := [.int a0]) C (mX11_isUpright l  h4) w_1728 w_1730 w_67 w_115 w_1731 hd_X11_isUpright ⟨rfl, rfl, Nat.le_of_ble_eq_true rfl, Nat.le_of_ble_eq_true rfl, Nat.zero_le _, Nat.zero_le _⟩ hP hD hS lk_X11 rfl hl.1 rfl (Nat.le_of_ble_eq_true rfl) dX11_rises_18) (fun H locs hP hD hS => ?_)
    have K15 : ∀ (y5 : Int32) (hf : fX11_rises_J29 mWorld a1 y5 = some out) (H : Heap) (locs : List Loc) (ls : Array Slot), va_P (xsD X) vwCl (wM X mThrown mWorld mImage mDraft mEarlier mRemembered mHasImage mIsLaid mOne mTwo mShare mX mY mD mEventX mEventY mEventD mEvents mCrossingOf mBundle mEventOf mDegree mFrom mTo mCrossings mEdges mMet mUpper mLower mTape mTaped mPoint mEnd mBegin mFaultAt mFive mTold mActs mFar mViews mHullX mHullY mEndX mEndY mHeightUp mHeightLow mMeets mMeetsOf Rw) H → va_D (xsF X) (wM X mThrown mWorld mImage mDraft mEarlier mRemembered mHasImage mIsLaid mOne mTwo mShare mX mY mD mEventX mEventY mEventD mEvents mCrossingOf mBundle mEventOf mDegree mFrom mTo mCrossings mEdges mMet mUpper mLower mTape mTaped mPoint mEnd mBegin mFaultAt mFive mTold mActs mFar mViews mHullX mHullY mEndX mEndY mHeightUp mHeightLow mMeets mMeetsOf Rw) → va_S (xsF X) s.heap H locs → lv_has ls 3 [(0, .ref (xsA X 100)), (2, .int a1)] → W p l e { frames := 2, cells := 0, slots := 0, locals := 43 } s m ([.ref (xsA X 100), .int a0, .int a1] : List Value).toArray below meth c H locs 0 0 (MQ below Qq ([.ref (xsA X 100), .int a0, .int a1] : List Value).toArray s 0 0 (xsF X)) (F0 m 29 ls [.int y5]) := by
      intro y5 hf H locs ls hP hD hS hl
      unfold fX11_rises_J29 at hf
      refine lv_aload_n hx hb dX11_rises_29 rfl (lv_at hl 0 rfl) ?_
      refine lv_iload_n hx hb dX11_rises_30 rfl (lv_at hl 1 rfl) ?_
      replace hf := xsBd_use hf
      obtain ⟨o6, h7, hf⟩ := hf
      refine xs_calli hS (xs_runV (As := [.int a1]) C (mX11_isUpright l  h7) w_1728 w_1730 w_67 w_115 w_1731 hd_X11_isUpright ⟨rfl, rfl, Nat.le_of_ble_eq_true rfl, Nat.le_of_ble_eq_true rfl, Nat.zero_le _, Nat.zero_le _⟩ hP hD hS lk_X11 rfl hl.1 rfl (Nat.le_of_ble_eq_true rfl) dX11_rises_31) (fun H locs hP hD hS => ?_)
      have K11 : ∀ (y8 : Int32) (hf : fX11_rises_J42 y5 y8 = some out) (H : Heap) (locs : List Loc) (ls : Array Slot), va_P (xsD X) vwCl (wM X mThrown mWorld mImage mDraft mEarlier mRemembered mHasImage mIsLaid mOne mTwo mShare mX mY mD mEventX mEventY mEventD mEvents mCrossingOf mBundle mEventOf mDegree mFrom mTo mCrossings mEdges mMet mUpper mLower mTape mTaped mPoint mEnd mBegin mFaultAt mFive mTold mActs mFar mViews mHullX mHullY mEndX mEndY mHeightUp mHeightLow mMeets mMeetsOf Rw) H → va_D (xsF X) (wM X mThrown mWorld mImage mDraft mEarlier mRemembered mHasImage mIsLaid mOne mTwo mShare mX mY mD mEventX mEventY mEventD mEvents mCrossingOf mBundle mEventOf mDegree mFrom mTo mCrossings mEdges mMet mUpper mLower mTape mTaped mPoint mEnd mBegin mFaultAt mFive mTold mActs mFar mViews mHullX mHullY mEndX mEndY mHeightUp mHeightLow mMeets mMeetsOf Rw) → va_S (xsF X) s.heap H locs → lv_has ls 3 [] → W p l e { frames := 2, cells := 0, slots := 0, locals := 43 } s m ([.ref (xsA X 100), .int a0, .int a1] : List Value).toArray below meth c H locs 0 0 (MQ below Qq ([.ref (xsA X 100), .int a0, .int a1] : List Value).toArray s 0 0 (xsF X)) (F0 m 42 ls [.int y8, .int y5]) := by
        intro y8 hf H locs ls hP hD hS hl
        unfold fX11_rises_J42 at hf
        refine lv_isub hx hb dX11_rises_42 ?_
        have ho := Option.some.inj hf
        subst ho
        rw [hQq]
        exact xs_iret C hr hlk hP hD hS dX11_rises_43
      replace hf := xsBd_use hf
      obtain ⟨v9, hf, hk10⟩ := hf
      refine lv_if_eq (tgt := 41) hx hb dX11_rises_34 (by decide) (fun c12 => ?_) (fun c12 => ?_)
      · replace hf := xsBr_t c12 hf
        refine lv_iconst (v := (0 : Int32)) hx hb dX11_rises_41 (by decide) ?_
        have ev := Option.some.inj hf
        subst ev
        exact K11 (0 : Int32) hk10 H locs ls hP hD hS (lv_sub hl [] rfl)
      · replace hf := xsBr_f c12 hf
        refine lv_iconst (v := (1 : Int32)) hx hb dX11_rises_37 (by decide) ?_
        refine lv_goto (tgt := 42) hx hb dX11_rises_38 (by decide) ?_
        have ev := Option.some.inj hf
        subst ev
        exact K11 (1 : Int32) hk10 H locs ls hP hD hS (lv_sub hl [] rfl)
    replace hf := xsBd_use hf
    obtain ⟨v13, hf, hk14⟩ := hf
    refine lv_if_eq (tgt := 28) hx hb dX11_rises_21 (by decide) (fun c16 => ?_) (fun c16 => ?_)
    · replace hf := xsBr_t c16 hf
      refine lv_iconst (v := (0 : Int32)) hx hb dX11_rises_28 (by decide) ?_
      have ev := Option.some.inj hf
      subst ev
      exact K15 (0 : Int32) hk14 H locs ls hP hD hS (lv_sub hl [0, 2] rfl)
    · replace hf := xsBr_f c16 hf
      refine lv_iconst (v := (1 : Int32)) hx hb dX11_rises_24 (by decide) ?_
      refine lv_goto (tgt := 29) hx hb dX11_rises_25 (by decide) ?_
      have ev := Option.some.inj hf
      subst ev
      exact K15 (1 : Int32) hk14 H locs ls hP hD hS (lv_sub hl [0, 2] rfl)
  refine lv_if_ne (tgt := 16) hx hb dX11_rises_5 (by decide) (fun c37 => ?_) (fun c37 => ?_)
  · replace hf := xsBr_f c37 hf
    exact K17 hf H locs ls hP hD hS (lv_sub hl [0, 1, 2] rfl)
  · replace hf := xsBr_t c37 hf
    refine lv_aload_n hx hb dX11_rises_8 rfl (lv_at hl 0 rfl) ?_
    refine lv_iload_n hx hb dX11_rises_9 rfl (lv_at hl 2 rfl) ?_
    replace hf := xsBd_use hf
    obtain ⟨o18, h19, hf⟩ := hf
    refine xs_calli hS (xs_runV (As := [.int a1]) C (mX11_isUpright l  h19) w_1728 w_1730 w_67 w_115 w_1731 hd_X11_isUpright ⟨rfl, rfl, Nat.le_of_ble_eq_true rfl, Nat.le_of_ble_eq_true rfl, Nat.zero_le _, Nat.zero_le _⟩ hP hD hS lk_X11 rfl hl.1 rfl (Nat.le_of_ble_eq_true rfl) dX11_rises_10) (fun H locs hP hD hS => ?_)
    refine lv_if_eq (tgt := 44) hx hb dX11_rises_13 (by decide) (fun c36 => ?_) (fun c36 => ?_)
    · replace hf := xsBr_t c36 hf
      refine lv_aload_n hx hb dX11_rises_44 rfl (lv_at hl 0 rfl) ?_
      refine lv_iload_n hx hb dX11_rises_45 rfl (lv_at hl 1 rfl) ?_
      refine lv_iconst (v := (3 : Int32)) hx hb dX11_rises_46 (by decide) ?_
      replace hf := xsBd_use hf
      obtain ⟨o20, h21, hf⟩ := hf
      refine xs_calli hS (xs_runV (As := [.int a0, .int (3 : Int32)]) C (mX11_of l  h21) w_1608 w_1610 w_50 w_115 w_1611 hd_X11_of ⟨rfl, rfl, Nat.le_of_ble_eq_true rfl, Nat.le_of_ble_eq_true rfl, Nat.zero_le _, Nat.zero_le _⟩ hP hD hS lk_X11 rfl hl.1 rfl (Nat.le_of_ble_eq_true rfl) dX11_rises_47) (fun H locs hP hD hS => ?_)
      refine lv_aload_n hx hb dX11_rises_50 rfl (lv_at hl 0 rfl) ?_
      refine lv_iload_n hx hb dX11_rises_51 rfl (lv_at hl 1 rfl) ?_
      refine lv_iconst (v := (1 : Int32)) hx hb dX11_rises_52 (by decide) ?_
      replace hf := xsBd_use hf
      obtain ⟨o22, h23, hf⟩ := hf
      refine xs_calli hS (xs_runV (As := [.int a0, .int (1 : Int32)]) C (mX11_of l  h23) w_1608 w_1610 w_50 w_115 w_1611 hd_X11_of ⟨rfl, rfl, Nat.le_of_ble_eq_true rfl, Nat.le_of_ble_eq_true rfl, Nat.zero_le _, Nat.zero_le _⟩ hP hD hS lk_X11 rfl hl.1 rfl (Nat.le_of_ble_eq_true rfl) dX11_rises_53) (fun H locs hP hD hS => ?_)
      refine lv_isub hx hb dX11_rises_56 ?_
      refine lv_aload_n hx hb dX11_rises_57 rfl (lv_at hl 0 rfl) ?_
      refine lv_iload_n hx hb dX11_rises_58 rfl (lv_at hl 2 rfl) ?_
      refine lv_iconst (v := (2 : Int32)) hx hb dX11_rises_59 (by decide) ?_
      replace hf := xsBd_use hf
      obtain ⟨o24, h25, hf⟩ := hf
      refine xs_calli hS (xs_runV (As := [.int a1, .int (2 : Int32)]) C (mX11_of l  h25) w_1608 w_1610 w_50 w_115 w_1611 hd_X11_of ⟨rfl, rfl, Nat.le_of_ble_eq_true rfl, Nat.le_of_ble_eq_true rfl, Nat.zero_le _, Nat.zero_le _⟩ hP hD hS lk_X11 rfl hl.1 rfl (Nat.le_of_ble_eq_true rfl) dX11_rises_60) (fun H locs hP hD hS => ?_)
      refine lv_aload_n hx hb dX11_rises_63 rfl (lv_at hl 0 rfl) ?_
      refine lv_iload_n hx hb dX11_rises_64 rfl (lv_at hl 2 rfl) ?_
      refine lv_iconst (v := (0 : Int32)) hx hb dX11_rises_65 (by decide) ?_
      replace hf := xsBd_use hf
      obtain ⟨o26, h27, hf⟩ := hf
      refine xs_calli hS (xs_runV (As := [.int a1, .int (0 : Int32)]) C (mX11_of l  h27) w_1608 w_1610 w_50 w_115 w_1611 hd_X11_of ⟨rfl, rfl, Nat.le_of_ble_eq_true rfl, Nat.le_of_ble_eq_true rfl, Nat.zero_le _, Nat.zero_le _⟩ hP hD hS lk_X11 rfl hl.1 rfl (Nat.le_of_ble_eq_true rfl) dX11_rises_66) (fun H locs hP hD hS => ?_)
      refine lv_isub hx hb dX11_rises_69 ?_
      refine lv_imul hx hb dX11_rises_70 ?_
      refine lv_aload_n hx hb dX11_rises_71 rfl (lv_at hl 0 rfl) ?_
      refine lv_iload_n hx hb dX11_rises_72 rfl (lv_at hl 2 rfl) ?_
      refine lv_iconst (v := (3 : Int32)) hx hb dX11_rises_73 (by decide) ?_
      replace hf := xsBd_use hf
      obtain ⟨o28, h29, hf⟩ := hf
      refine xs_calli hS (xs_runV (As := [.int a1, .int (3 : Int32)]) C (mX11_of l  h29) w_1608 w_1610 w_50 w_115 w_1611 hd_X11_of ⟨rfl, rfl, Nat.le_of_ble_eq_true rfl, Nat.le_of_ble_eq_true rfl, Nat.zero_le _, Nat.zero_le _⟩ hP hD hS lk_X11 rfl hl.1 rfl (Nat.le_of_ble_eq_true rfl) dX11_rises_74) (fun H locs hP hD hS => ?_)
      refine lv_aload_n hx hb dX11_rises_77 rfl (lv_at hl 0 rfl) ?_
      refine lv_iload_n hx hb dX11_rises_78 rfl (lv_at hl 2 rfl) ?_
      refine lv_iconst (v := (1 : Int32)) hx hb dX11_rises_79 (by decide) ?_
      replace hf := xsBd_use hf
      obtain ⟨o30, h31, hf⟩ := hf
      refine xs_calli hS (xs_runV (As := [.int a1, .int (1 : Int32)]) C (mX11_of l  h31) w_1608 w_1610 w_50 w_115 w_1611 hd_X11_of ⟨rfl, rfl, Nat.le_of_ble_eq_true rfl, Nat.le_of_ble_eq_true rfl, Nat.zero_le _, Nat.zero_le _⟩ hP hD hS lk_X11 rfl hl.1 rfl (Nat.le_of_ble_eq_true rfl) dX11_rises_80) (fun H locs hP hD hS => ?_)
      refine lv_isub hx hb dX11_rises_83 ?_
      refine lv_aload_n hx hb dX11_rises_84 rfl (lv_at hl 0 rfl) ?_
      refine lv_iload_n hx hb dX11_rises_85 rfl (lv_at hl 1 rfl) ?_
      refine lv_iconst (v := (2 : Int32)) hx hb dX11_rises_86 (by decide) ?_
      replace hf := xsBd_use hf
      obtain ⟨o32, h33, hf⟩ := hf
      refine xs_calli hS (xs_runV (As := [.int a0, .int (2 : Int32)]) C (mX11_of l  h33) w_1608 w_1610 w_50 w_115 w_1611 hd_X11_of ⟨rfl, rfl, Nat.le_of_ble_eq_true rfl, Nat.le_of_ble_eq_true rfl, Nat.zero_le _, Nat.zero_le _⟩ hP hD hS lk_X11 rfl hl.1 rfl (Nat.le_of_ble_eq_true rfl) dX11_rises_87) (fun H locs hP hD hS => ?_)
      refine lv_aload_n hx hb dX11_rises_90 rfl (lv_at hl 0 rfl) ?_
      refine lv_iload_n hx hb dX11_rises_91 rfl (lv_at hl 1 rfl) ?_
      refine lv_iconst (v := (0 : Int32)) hx hb dX11_rises_92 (by decide) ?_
      replace hf := xsBd_use hf
      obtain ⟨o34, h35, hf⟩ := hf
      refine xs_calli hS (xs_runV (As := [.int a0, .int (0 : Int32)]) C (mX11_of l  h35) w_1608 w_1610 w_50 w_115 w_1611 hd_X11_of ⟨rfl, rfl, Nat.le_of_ble_eq_true rfl, Nat.le_of_ble_eq_true rfl, Nat.zero_le _, Nat.zero_le _⟩ hP hD hS lk_X11 rfl hl.1 rfl (Nat.le_of_ble_eq_true rfl) dX11_rises_93) (fun H locs hP hD hS => ?_)
      refine lv_isub hx hb dX11_rises_96 ?_
      refine lv_imul hx hb dX11_rises_97 ?_
      refine lv_isub hx hb dX11_rises_98 ?_
      have ho := Option.some.inj hf
      subst ho
      rw [hQq]
      exact xs_iret C hr hlk hP hD hS dX11_rises_99
    · replace hf := xsBr_f c36 hf
      exact K17 hf H locs ls hP hD hS (lv_sub hl [0, 1, 2] rfl)
set_option maxRecDepth 100000 in
set_option maxHeartbeats 8000000 in
theorem mX11_isBelow (l : Launch) {X : xsX} {mThrown mRemembered mHasImage mIsLaid mEvents mCrossings mEdges mTaped mPoint mEnd mBegin mFaultAt mActs : Int32} {mWorld mImage mDraft mEarlier mOne mTwo mShare mCrossingOf mBundle mEventOf mDegree mFrom mTo mMet mTape mFive mTold mFar mViews mHullX mHullY mEndX mEndY mMeets mMeetsOf : Nat → Int32} {mX mY mD mHeightUp mHeightLow : Int64} {mEventX mEventY mEventD mUpper mLower : Nat → Int64} {Rw : va_W} {a0 : Int32} {a1 : Int32} {a2 : Int32} {out : Int32} (hf : fX11_isBelow mWorld mEventY mUpper mLower a0 a1 a2 = some out) : Met l yX11_isBelow (xsWs yX11_isBelow cX11_isBelow 8 (some .boolean)) { frames := 3, cells := 0, slots := 0, locals := 65 } (xsP X (wM X mThrown mWorld mImage mDraft mEarlier mRemembered mHasImage mIsLaid mOne mTwo mShare mX mY mD mEventX mEventY mEventD mEvents mCrossingOf mBundle mEventOf mDegree mFrom mTo mCrossings mEdges mMet mUpper mLower mTape mTaped mPoint mEnd mBegin mFaultAt mFive mTold mActs mFar mViews mHullX mHullY mEndX mEndY mHeightUp mHeightLow mMeets mMeetsOf Rw) [.ref (xsA X 100), .int a0, .int a1, .int a2]) (xsQi X out (wM X mThrown mWorld mImage mDraft mEarlier mRemembered mHasImage mIsLaid mOne mTwo mShare mX mY mD mEventX mEventY mEventD mEvents mCrossingOf mBundle mEventOf mDegree mFrom mTo mCrossings mEdges mMet mUpper mLower mTape mTaped mPoint mEnd mBegin mFaultAt mFive mTold mActs mFar mViews mHullX mHullY mEndX mEndY mHeightUp mHeightLow mMeets mMeetsOf Rw)) 0 0 (xsF X) := by
  refine xs_meth RX11 (by decide) rfl (Nat.le_of_ble_eq_true rfl) ?_
  intro p e s m below meth c ls H locs C hP hD hS hr hlk hl
  have hx := C.1
  have hb := C.2.1
  have hl : lv_has ls 8 [(0, .ref (xsA X 100)), (1, .int a0), (2, .int a1), (3, .int a2)] := hl
  obtain ⟨Qq, hQq⟩ : ∃ Qq, Qq = xsQi X out (wM X mThrown mWorld mImage mDraft mEarlier mRemembered mHasImage mIsLaid mOne mTwo mShare mX mY mD mEventX mEventY mEventD mEvents mCrossingOf mBundle mEventOf mDegree mFrom mTo mCrossings mEdges mMet mUpper mLower mTape mTaped mPoint mEnd mBegin mFaultAt mFive mTold mActs mFar mViews mHullX mHullY mEndX mEndY mHeightUp mHeightLow mMeets mMeetsOf Rw) := ⟨_, rfl⟩
  rw [← hQq]
  unfold fX11_isBelow at hf
  refine lv_aload_n hx hb dX11_isBelow_0 rfl (lv_at hl 0 rfl) ?_
  refine xg_X11_66 C hP dX11_isBelow_1 ?_
  refine lv_iload_n hx hb dX11_isBelow_4 rfl (lv_at hl 1 rfl) ?_
  replace hf := xsCk_use hf
  obtain ⟨h1, hf⟩ := hf
  refine xl_mUpper C hP h1 dX11_isBelow_5 ?_
  refine lv_aload_n hx hb dX11_isBelow_6 rfl (lv_at hl 0 rfl) ?_
  refine xg_X11_69 C hP dX11_isBelow_7 ?_
  refine lv_iload_n hx hb dX11_isBelow_10 rfl (lv_at hl 2 rfl) ?_
  replace hf := xsCk_use hf
  obtain ⟨h2, hf⟩ := hf
  refine xl_mLower C hP h2 dX11_isBelow_11 ?_
  refine lv_lmul hx hb dX11_isBelow_12 ?_
  refine lv_aload_n hx hb dX11_isBelow_13 rfl (lv_at hl 0 rfl) ?_
  refine xg_X11_66 C hP dX11_isBelow_14 ?_
  refine lv_iload_n hx hb dX11_isBelow_17 rfl (lv_at hl 2 rfl) ?_
  replace hf := xsCk_use hf
  obtain ⟨h3, hf⟩ := hf
  refine xl_mUpper C hP h3 dX11_isBelow_18 ?_
  refine lv_aload_n hx hb dX11_isBelow_19 rfl (lv_at hl 0 rfl) ?_
  refine xg_X11_69 C hP dX11_isBelow_20 ?_
  refine lv_iload_n hx hb dX11_isBelow_23 rfl (lv_at hl 1 rfl) ?_
  replace hf := xsCk_use hf
  obtain ⟨h4, hf⟩ := hf
  refine xl_mLower C hP h4 dX11_isBelow_24 ?_
  refine lv_lmul hx hb dX11_isBelow_25 ?_
  refine lv_lsub hx hb dX11_isBelow_26 ?_
  refine lv_topl (fun x5 ex5 => ?_)
  replace hf := xsLt_use ex5 hf
  refine lv_lstore (lv' := [(4, .long x5), (0, .ref (xsA X 100)), (1, .int a0), (2, .int a1), (3, .int a2)]) hx hb dX11_isBelow_27 hl (by decide) rfl (fun ls hl => ?_)
  refine lv_lload hx hb dX11_isBelow_29 (lv_at hl 0 rfl) ?_
  refine lv_lconst (v := (0 : Int64)) hx hb dX11_isBelow_31 (by decide) ?_
  refine xs_lcmp_eq (tgt := 49) C dX11_isBelow_32 dX11_isBelow_33 (by decide) (fun c27 => ?_) (fun c27 => ?_)
  · replace hf := xsBr_t c27 hf
    refine lv_aload_n hx hb dX11_isBelow_49 rfl (lv_at hl 1 rfl) ?_
    refine xg_X11_66 C hP dX11_isBelow_50 ?_
    refine lv_iload_n hx hb dX11_isBelow_53 rfl (lv_at hl 2 rfl) ?_
    replace hf := xsCk_use hf
    obtain ⟨h6, hf⟩ := hf
    refine xl_mUpper C hP h6 dX11_isBelow_54 ?_
    refine lv_aload_n hx hb dX11_isBelow_55 rfl (lv_at hl 1 rfl) ?_
    refine xg_X11_39 C hP dX11_isBelow_56 ?_
    refine lv_iload_n hx hb dX11_isBelow_59 rfl (lv_at hl 4 rfl) ?_
    replace hf := xsCk_use hf
    obtain ⟨h7, hf⟩ := hf
    refine xl_mEventY C hP h7 dX11_isBelow_60 ?_
    refine lv_aload_n hx hb dX11_isBelow_61 rfl (lv_at hl 1 rfl) ?_
    refine xg_X11_69 C hP dX11_isBelow_62 ?_
    refine lv_iload_n hx hb dX11_isBelow_65 rfl (lv_at hl 2 rfl) ?_
    replace hf := xsCk_use hf
    obtain ⟨h8, hf⟩ := hf
    refine xl_mLower C hP h8 dX11_isBelow_66 ?_
    refine lv_lmul hx hb dX11_isBelow_67 ?_
    have K24 : ∀ (y9 : Int32) (hf : fX11_isBelow_J77 mWorld a0 a1 y9 = some out) (H : Heap) (locs : List Loc) (ls : Array Slot), va_P (xsD X) vwCl (wM X mThrown mWorld mImage mDraft mEarlier mRemembered mHasImage mIsLaid mOne mTwo mShare mX mY mD mEventX mEventY mEventD mEvents mCrossingOf mBundle mEventOf mDegree mFrom mTo mCrossings mEdges mMet mUpper mLower mTape mTaped mPoint mEnd mBegin mFaultAt mFive mTold mActs mFar mViews mHullX mHullY mEndX mEndY mHeightUp mHeightLow mMeets mMeetsOf Rw) H → va_D (xsF X) (wM X mThrown mWorld mImage mDraft mEarlier mRemembered mHasImage mIsLaid mOne mTwo mShare mX mY mD mEventX mEventY mEventD mEvents mCrossingOf mBundle mEventOf mDegree mFrom mTo mCrossings mEdges mMet mUpper mLower mTape mTaped mPoint mEnd mBegin mFaultAt mFive mTold mActs mFar mViews mHullX mHullY mEndX mEndY mHeightUp mHeightLow mMeets mMeetsOf Rw) → va_S (xsF X) s.heap H locs → lv_has ls 8 [(0, .ref (xsA X 100)), (1, .int a0), (2, .int a1)] → W p l e { frames := 3, cells := 0, slots := 0, locals := 65 } s m ([.ref (xsA X 100), .int a0, .int a1, .int a2] : List Value).toArray below meth c H locs 0 0 (MQ below Qq ([.ref (xsA X 100), .int a0, .int a1, .int a2] : List Value).toArray s 0 0 (xsF X)) (F0 m 77 ls [.int y9]) := by
      intro y9 hf H locs ls hP hD hS hl
      unfold fX11_isBelow_J77 at hf
      refine lv_istore (lv' := [(6, .int y9), (0, .ref (xsA X 100)), (1, .int a0), (2, .int a1)]) hx hb dX11_isBelow_77 hl (by decide) rfl (fun ls hl => ?_)
      refine lv_iload hx hb dX11_isBelow_79 (lv_at hl 0 rfl) ?_
      have K16 : ∀ (y10 : Int32) (hf : fX11_isBelow_J100 a0 a1 y10 = some out) (H : Heap) (locs : List Loc) (ls : Array Slot), va_P (xsD X) vwCl (wM X mThrown mWorld mImage mDraft mEarlier mRemembered mHasImage mIsLaid mOne mTwo mShare mX mY mD mEventX mEventY mEventD mEvents mCrossingOf mBundle mEventOf mDegree mFrom mTo mCrossings mEdges mMet mUpper mLower mTape mTaped mPoint mEnd mBegin mFaultAt mFive mTold mActs mFar mViews mHullX mHullY mEndX mEndY mHeightUp mHeightLow mMeets mMeetsOf Rw) H → va_D (xsF X) (wM X mThrown mWorld mImage mDraft mEarlier mRemembered mHasImage mIsLaid mOne mTwo mShare mX mY mD mEventX mEventY mEventD mEvents mCrossingOf mBundle mEventOf mDegree mFrom mTo mCrossings mEdges mMet mUpper mLower mTape mTaped mPoint mEnd mBegin mFaultAt mFive mTold mActs mFar mViews mHullX mHullY mEndX mEndY mHeightUp mHeightLow mMeets mMeetsOf Rw) → va_S (xsF X) s.heap H locs → lv_has ls 8 [(1, .int a0), (2, .int a1)] → W p l e { frames := 3, cells := 0, slots := 0, locals := 65 } s m ([.ref (xsA X 100), .int a0, .int a1, .int a2] : List Value).toArray below meth c H locs 0 0 (MQ below Qq ([.ref (xsA X 100), .int a0, .int a1, .int a2] : List Value).toArray s 0 0 (xsF X)) (F0 m 100 ls [.int y10]) := by
        intro y10 hf H locs ls hP hD hS hl
        unfold fX11_isBelow_J100 at hf
        refine lv_istore (lv' := [(7, .int y10), (1, .int a0), (2, .int a1)]) hx hb dX11_isBelow_100 hl (by decide) rfl (fun ls hl => ?_)
        refine lv_iload hx hb dX11_isBelow_102 (lv_at hl 0 rfl) ?_
        refine lv_if_eq (tgt := 120) hx hb dX11_isBelow_104 (by decide) (fun c13 => ?_) (fun c13 => ?_)
        · replace hf := xsBr_t c13 hf
          refine lv_iload_n hx hb dX11_isBelow_120 rfl (lv_at hl 1 rfl) ?_
          refine lv_iload_n hx hb dX11_isBelow_121 rfl (lv_at hl 2 rfl) ?_
          refine lv_icmp_ge (tgt := 129) hx hb dX11_isBelow_122 (by decide) (fun c11 => ?_) (fun c11 => ?_)
          · replace hf := xsBr_t c11 hf
            refine lv_iconst (v := (0 : Int32)) hx hb dX11_isBelow_129 (by decide) ?_
            have ho := Option.some.inj hf
            subst ho
            rw [hQq]
            exact xs_zret C hr hlk xsB_0 hP hD hS dX11_isBelow_130
          · replace hf := xsBr_f c11 hf
            refine lv_iconst (v := (1 : Int32)) hx hb dX11_isBelow_125 (by decide) ?_
            refine lv_goto (tgt := 130) hx hb dX11_isBelow_126 (by decide) ?_
            have ho := Option.some.inj hf
            subst ho
            rw [hQq]
            exact xs_zret C hr hlk xsB_1 hP hD hS dX11_isBelow_130
        · replace hf := xsBr_f c13 hf
          refine lv_iload hx hb dX11_isBelow_107 (lv_at hl 0 rfl) ?_
          refine lv_if_ge (tgt := 116) hx hb dX11_isBelow_109 (by decide) (fun c12 => ?_) (fun c12 => ?_)
          · replace hf := xsBr_t c12 hf
            refine lv_iconst (v := (0 : Int32)) hx hb dX11_isBelow_116 (by decide) ?_
            refine lv_goto (tgt := 130) hx hb dX11_isBelow_117 (by decide) ?_
            have ho := Option.some.inj hf
            subst ho
            rw [hQq]
            exact xs_zret C hr hlk xsB_0 hP hD hS dX11_isBelow_130
          · replace hf := xsBr_f c12 hf
            refine lv_iconst (v := (1 : Int32)) hx hb dX11_isBelow_112 (by decide) ?_
            refine lv_goto (tgt := 130) hx hb dX11_isBelow_113 (by decide) ?_
            have ho := Option.some.inj hf
            subst ho
            rw [hQq]
            exact xs_zret C hr hlk xsB_1 hP hD hS dX11_isBelow_130
      replace hf := xsBd_use hf
      obtain ⟨v14, hf, hk15⟩ := hf
      refine lv_if_eq (tgt := 94) hx hb dX11_isBelow_81 (by decide) (fun c21 => ?_) (fun c21 => ?_)
      · replace hf := xsBr_t c21 hf
        refine lv_aload_n hx hb dX11_isBelow_94 rfl (lv_at hl 1 rfl) ?_
        refine lv_iload_n hx hb dX11_isBelow_95 rfl (lv_at hl 2 rfl) ?_
        refine lv_iload_n hx hb dX11_isBelow_96 rfl (lv_at hl 3 rfl) ?_
        replace hf := xsBd_use hf
        obtain ⟨o17, h18, hf⟩ := hf
        refine xs_calli hS (xs_runV (As := [.int a0, .int a1]) C (mX11_rises l  h18) w_1839 w_1841 w_86 w_115 w_1842 hd_X11_rises ⟨rfl, rfl, Nat.le_of_ble_eq_true rfl, Nat.le_of_ble_eq_true rfl, Nat.zero_le _, Nat.zero_le _⟩ hP hD hS lk_X11 rfl hl.1 rfl (Nat.le_of_ble_eq_true rfl) dX11_isBelow_97) (fun H locs hP hD hS => ?_)
        have ev := Option.some.inj hf
        subst ev
        exact K16 o17 hk15 H locs ls hP hD hS (lv_sub hl [2, 3] rfl)
      · replace hf := xsBr_f c21 hf
        refine lv_aload_n hx hb dX11_isBelow_84 rfl (lv_at hl 1 rfl) ?_
        refine lv_iload_n hx hb dX11_isBelow_85 rfl (lv_at hl 2 rfl) ?_
        refine lv_iload_n hx hb dX11_isBelow_86 rfl (lv_at hl 3 rfl) ?_
        replace hf := xsBd_use hf
        obtain ⟨o19, h20, hf⟩ := hf
        refine xs_calli hS (xs_runV (As := [.int a0, .int a1]) C (mX11_rises l  h20) w_1839 w_1841 w_86 w_115 w_1842 hd_X11_rises ⟨rfl, rfl, Nat.le_of_ble_eq_true rfl, Nat.le_of_ble_eq_true rfl, Nat.zero_le _, Nat.zero_le _⟩ hP hD hS lk_X11 rfl hl.1 rfl (Nat.le_of_ble_eq_true rfl) dX11_isBelow_87) (fun H locs hP hD hS => ?_)
        refine lv_ineg hx hb dX11_isBelow_90 ?_
        refine lv_goto (tgt := 100) hx hb dX11_isBelow_91 (by decide) ?_
        have ev := Option.some.inj hf
        subst ev
        exact K16 (-o19) hk15 H locs ls hP hD hS (lv_sub hl [2, 3] rfl)
    replace hf := xsBd_use hf
    obtain ⟨v22, hf, hk23⟩ := hf
    refine xs_lcmp_le (tgt := 76) C dX11_isBelow_68 dX11_isBelow_69 (by decide) (fun c25 => ?_) (fun c25 => ?_)
    · replace hf := xsBr_t c25 hf
      refine lv_iconst (v := (0 : Int32)) hx hb dX11_isBelow_76 (by decide) ?_
      have ev := Option.some.inj hf
      subst ev
      exact K24 (0 : Int32) hk23 H locs ls hP hD hS (lv_sub hl [1, 2, 3] rfl)
    · replace hf := xsBr_f c25 hf
      refine lv_iconst (v := (1 : Int32)) hx hb dX11_isBelow_72 (by decide) ?_
      refine lv_goto (tgt := 77) hx hb dX11_isBelow_73 (by decide) ?_
      have ev := Option.some.inj hf
      subst ev
      exact K24 (1 : Int32) hk23 H locs ls hP hD hS (lv_sub hl [1, 2, 3] rfl)
  · replace hf := xsBr_f c27 hf
    refine lv_lload hx hb dX11_isBelow_36 (lv_at hl 0 rfl) ?_
    refine lv_lconst (v := (0 : Int64)) hx hb dX11_isBelow_38 (by decide) ?_
    refine xs_lcmp_ge (tgt := 47) C dX11_isBelow_39 dX11_isBelow_40 (by decide) (fun c26 => ?_) (fun c26 => ?_)
    · replace hf := xsBr_t c26 hf
      refine lv_iconst (v := (0 : Int32)) hx hb dX11_isBelow_47 (by decide) ?_
      have ho := Option.some.inj hf
      subst ho
      rw [hQq]
      exact xs_zret C hr hlk xsB_0 hP hD hS dX11_isBelow_48
    · replace hf := xsBr_f c26 hf
      refine lv_iconst (v := (1 : Int32)) hx hb dX11_isBelow_43 (by decide) ?_
      refine lv_goto (tgt := 48) hx hb dX11_isBelow_44 (by decide) ?_
      have ho := Option.some.inj hf
      subst ho
      rw [hQq]
      exact xs_zret C hr hlk xsB_1 hP hD hS dX11_isBelow_48
set_option maxRecDepth 100000 in
set_option maxHeartbeats 8000000 in
theorem mX11_isMet (l : Launch) {X : xsX} {mThrown mRemembered mHasImage mIsLaid mEvents mCrossings mEdges mTaped mPoint mEnd mBegin mFaultAt mActs : Int32} {mWorld mImage mDraft mEarlier mOne mTwo mShare mCrossingOf mBundle mEventOf mDegree mFrom mTo mMet mTape mFive mTold mFar mViews mHullX mHullY mEndX mEndY mMeets mMeetsOf : Nat → Int32} {mX mY mD mHeightUp mHeightLow : Int64} {mEventX mEventY mEventD mUpper mLower : Nat → Int64} {Rw : va_W} {a0 : Int32} {a1 : Int32} {out : Int32} (hf : fX11_isMet mWorld mEventX mEventY mEventD a0 a1 = some out) : Met l yX11_isMet (xsWs yX11_isMet cX11_isMet 4 (some .boolean)) { frames := 1, cells := 0, slots := 0, locals := 35 } (xsP X (wM X mThrown mWorld mImage mDraft mEarlier mRemembered mHasImage mIsLaid mOne mTwo mShare mX mY mD mEventX mEventY mEventD mEvents mCrossingOf mBundle mEventOf mDegree mFrom mTo mCrossings mEdges mMet mUpper mLower mTape mTaped mPoint mEnd mBegin mFaultAt mFive mTold mActs mFar mViews mHullX mHullY mEndX mEndY mHeightUp mHeightLow mMeets mMeetsOf Rw) [.ref (xsA X 100), .int a0, .int a1]) (xsQi X out (wM X mThrown mWorld mImage mDraft mEarlier mRemembered mHasImage mIsLaid mOne mTwo mShare mX mY mD mEventX mEventY mEventD mEvents mCrossingOf mBundle mEventOf mDegree mFrom mTo mCrossings mEdges mMet mUpper mLower mTape mTaped mPoint mEnd mBegin mFaultAt mFive mTold mActs mFar mViews mHullX mHullY mEndX mEndY mHeightUp mHeightLow mMeets mMeetsOf Rw)) 0 0 (xsF X) := by
  refine xs_meth RX11 (by decide) rfl (Nat.le_of_ble_eq_true rfl) ?_
  intro p e s m below meth c ls H locs C hP hD hS hr hlk hl
  have hx := C.1
  have hb := C.2.1
  have hl : lv_has ls 4 [(0, .ref (xsA X 100)), (1, .int a0), (2, .int a1)] := hl
  obtain ⟨Qq, hQq⟩ : ∃ Qq, Qq = xsQi X out (wM X mThrown mWorld mImage mDraft mEarlier mRemembered mHasImage mIsLaid mOne mTwo mShare mX mY mD mEventX mEventY mEventD mEvents mCrossingOf mBundle mEventOf mDegree mFrom mTo mCrossings mEdges mMet mUpper mLower mTape mTaped mPoint mEnd mBegin mFaultAt mFive mTold mActs mFar mViews mHullX mHullY mEndX mEndY mHeightUp mHeightLow mMeets mMeetsOf Rw) := ⟨_, rfl⟩
  rw [← hQq]
  unfold fX11_isMet at hf
  refine lv_aload_n hx hb dX11_isMet_0 rfl (lv_at hl 0 rfl) ?_
  refine lv_iload_n hx hb dX11_isMet_1 rfl (lv_at hl 1 rfl) ?_
  refine lv_iconst (v := (0 : Int32)) hx hb dX11_isMet_2 (by decide) ?_
  replace hf := xsBd_use hf
  obtain ⟨o1, h2, hf⟩ := hf
  refine xs_calli hS (xs_runV (As := [.int a0, .int (0 : Int32)]) C (mX11_of l  h2) w_1608 w_1610 w_50 w_115 w_1611 hd_X11_of ⟨rfl, rfl, Nat.le_of_ble_eq_true rfl, Nat.le_of_ble_eq_true rfl, Nat.zero_le _, Nat.zero_le _⟩ hP hD hS lk_X11 rfl hl.1 rfl (Nat.le_of_ble_eq_true rfl) dX11_isMet_3) (fun H locs hP hD hS => ?_)
  refine lv_i2l hx hb dX11_isMet_6 rfl ?_
  refine lv_aload_n hx hb dX11_isMet_7 rfl (lv_at hl 0 rfl) ?_
  refine lv_iload_n hx hb dX11_isMet_8 rfl (lv_at hl 1 rfl) ?_
  refine lv_iconst (v := (1 : Int32)) hx hb dX11_isMet_9 (by decide) ?_
  replace hf := xsBd_use hf
  obtain ⟨o3, h4, hf⟩ := hf
  refine xs_calli hS (xs_runV (As := [.int a0, .int (1 : Int32)]) C (mX11_of l  h4) w_1608 w_1610 w_50 w_115 w_1611 hd_X11_of ⟨rfl, rfl, Nat.le_of_ble_eq_true rfl, Nat.le_of_ble_eq_true rfl, Nat.zero_le _, Nat.zero_le _⟩ hP hD hS lk_X11 rfl hl.1 rfl (Nat.le_of_ble_eq_true rfl) dX11_isMet_10) (fun H locs hP hD hS => ?_)
  refine lv_i2l hx hb dX11_isMet_13 rfl ?_
  refine lv_lconst (v := (1 : Int64)) hx hb dX11_isMet_14 (by decide) ?_
  refine lv_aload_n hx hb dX11_isMet_15 rfl (lv_at hl 0 rfl) ?_
  refine xg_X11_35 C hP dX11_isMet_16 ?_
  refine lv_iload_n hx hb dX11_isMet_19 rfl (lv_at hl 2 rfl) ?_
  replace hf := xsCk_use hf
  obtain ⟨h5, hf⟩ := hf
  refine xl_mEventX C hP h5 dX11_isMet_20 ?_
  refine lv_aload_n hx hb dX11_isMet_21 rfl (lv_at hl 0 rfl) ?_
  refine xg_X11_39 C hP dX11_isMet_22 ?_
  refine lv_iload_n hx hb dX11_isMet_25 rfl (lv_at hl 2 rfl) ?_
  replace hf := xsCk_use hf
  obtain ⟨h6, hf⟩ := hf
  refine xl_mEventY C hP h6 dX11_isMet_26 ?_
  refine lv_aload_n hx hb dX11_isMet_27 rfl (lv_at hl 0 rfl) ?_
  refine xg_X11_42 C hP dX11_isMet_28 ?_
  refine lv_iload_n hx hb dX11_isMet_31 rfl (lv_at hl 2 rfl) ?_
  replace hf := xsCk_use hf
  obtain ⟨h7, hf⟩ := hf
  refine xl_mEventD C hP h7 dX11_isMet_32 ?_
  replace hf := xsBd_use hf
  obtain ⟨o8, h9, hf⟩ := hf
  refine xs_calli hS (xs_runS (As := [.long o1.toInt64, .long o3.toInt64, .long (1 : Int64), .long (mEventX a1.toNatClampNeg), .long (mEventY a1.toNatClampNeg), .long (mEventD a1.toNatClampNeg)]) C (mX11_against l  h9) w_1654 w_1655 w_115 w_1656 hd_X11_against ⟨rfl, rfl, Nat.le_of_ble_eq_true rfl, Nat.le_of_ble_eq_true rfl, Nat.zero_le _, Nat.zero_le _⟩ hP hD hS hl.1 rfl (Nat.le_of_ble_eq_true rfl) dX11_isMet_33) (fun H locs hP hD hS => ?_)
  have K24 : ∀ (y10 : Int32) (hf : fX11_isMet_J44 mWorld mEventX mEventY mEventD a0 a1 y10 = some out) (H : Heap) (locs : List Loc) (ls : Array Slot), va_P (xsD X) vwCl (wM X mThrown mWorld mImage mDraft mEarlier mRemembered mHasImage mIsLaid mOne mTwo mShare mX mY mD mEventX mEventY mEventD mEvents mCrossingOf mBundle mEventOf mDegree mFrom mTo mCrossings mEdges mMet mUpper mLower mTape mTaped mPoint mEnd mBegin mFaultAt mFive mTold mActs mFar mViews mHullX mHullY mEndX mEndY mHeightUp mHeightLow mMeets mMeetsOf Rw) H → va_D (xsF X) (wM X mThrown mWorld mImage mDraft mEarlier mRemembered mHasImage mIsLaid mOne mTwo mShare mX mY mD mEventX mEventY mEventD mEvents mCrossingOf mBundle mEventOf mDegree mFrom mTo mCrossings mEdges mMet mUpper mLower mTape mTaped mPoint mEnd mBegin mFaultAt mFive mTold mActs mFar mViews mHullX mHullY mEndX mEndY mHeightUp mHeightLow mMeets mMeetsOf Rw) → va_S (xsF X) s.heap H locs → lv_has ls 4 [(0, .ref (xsA X 100)), (1, .int a0), (2, .int a1)] → W p l e { frames := 1, cells := 0, slots := 0, locals := 35 } s m ([.ref (xsA X 100), .int a0, .int a1] : List Value).toArray below meth c H locs 0 0 (MQ below Qq ([.ref (xsA X 100), .int a0, .int a1] : List Value).toArray s 0 0 (xsF X)) (F0 m 44 ls [.int y10]) := by
    intro y10 hf H locs ls hP hD hS hl
    unfold fX11_isMet_J44 at hf
    refine lv_istore_n (lv' := [(3, .int y10), (0, .ref (xsA X 100)), (1, .int a0), (2, .int a1)]) hx hb dX11_isMet_44 rfl hl (by decide) rfl (fun ls hl => ?_)
    refine lv_iload_n hx hb dX11_isMet_45 rfl (lv_at hl 0 rfl) ?_
    refine lv_if_eq (tgt := 92) hx hb dX11_isMet_46 (by decide) (fun c21 => ?_) (fun c21 => ?_)
    · replace hf := xsBr_t c21 hf
      refine lv_iconst (v := (0 : Int32)) hx hb dX11_isMet_92 (by decide) ?_
      have ho := Option.some.inj hf
      subst ho
      rw [hQq]
      exact xs_zret C hr hlk xsB_0 hP hD hS dX11_isMet_93
    · replace hf := xsBr_f c21 hf
      refine lv_aload_n hx hb dX11_isMet_49 rfl (lv_at hl 1 rfl) ?_
      refine lv_iload_n hx hb dX11_isMet_50 rfl (lv_at hl 2 rfl) ?_
      refine lv_iconst (v := (2 : Int32)) hx hb dX11_isMet_51 (by decide) ?_
      replace hf := xsBd_use hf
      obtain ⟨o11, h12, hf⟩ := hf
      refine xs_calli hS (xs_runV (As := [.int a0, .int (2 : Int32)]) C (mX11_of l  h12) w_1608 w_1610 w_50 w_115 w_1611 hd_X11_of ⟨rfl, rfl, Nat.le_of_ble_eq_true rfl, Nat.le_of_ble_eq_true rfl, Nat.zero_le _, Nat.zero_le _⟩ hP hD hS lk_X11 rfl hl.1 rfl (Nat.le_of_ble_eq_true rfl) dX11_isMet_52) (fun H locs hP hD hS => ?_)
      refine lv_i2l hx hb dX11_isMet_55 rfl ?_
      refine lv_aload_n hx hb dX11_isMet_56 rfl (lv_at hl 1 rfl) ?_
      refine lv_iload_n hx hb dX11_isMet_57 rfl (lv_at hl 2 rfl) ?_
      refine lv_iconst (v := (3 : Int32)) hx hb dX11_isMet_58 (by decide) ?_
      replace hf := xsBd_use hf
      obtain ⟨o13, h14, hf⟩ := hf
      refine xs_calli hS (xs_runV (As := [.int a0, .int (3 : Int32)]) C (mX11_of l  h14) w_1608 w_1610 w_50 w_115 w_1611 hd_X11_of ⟨rfl, rfl, Nat.le_of_ble_eq_true rfl, Nat.le_of_ble_eq_true rfl, Nat.zero_le _, Nat.zero_le _⟩ hP hD hS lk_X11 rfl hl.1 rfl (Nat.le_of_ble_eq_true rfl) dX11_isMet_59) (fun H locs hP hD hS => ?_)
      refine lv_i2l hx hb dX11_isMet_62 rfl ?_
      refine lv_lconst (v := (1 : Int64)) hx hb dX11_isMet_63 (by decide) ?_
      refine lv_aload_n hx hb dX11_isMet_64 rfl (lv_at hl 1 rfl) ?_
      refine xg_X11_35 C hP dX11_isMet_65 ?_
      refine lv_iload_n hx hb dX11_isMet_68 rfl (lv_at hl 3 rfl) ?_
      replace hf := xsCk_use hf
      obtain ⟨h15, hf⟩ := hf
      refine xl_mEventX C hP h15 dX11_isMet_69 ?_
      refine lv_aload_n hx hb dX11_isMet_70 rfl (lv_at hl 1 rfl) ?_
      refine xg_X11_39 C hP dX11_isMet_71 ?_
      refine lv_iload_n hx hb dX11_isMet_74 rfl (lv_at hl 3 rfl) ?_
      replace hf := xsCk_use hf
      obtain ⟨h16, hf⟩ := hf
      refine xl_mEventY C hP h16 dX11_isMet_75 ?_
      refine lv_aload_n hx hb dX11_isMet_76 rfl (lv_at hl 1 rfl) ?_
      refine xg_X11_42 C hP dX11_isMet_77 ?_
      refine lv_iload_n hx hb dX11_isMet_80 rfl (lv_at hl 3 rfl) ?_
      replace hf := xsCk_use hf
      obtain ⟨h17, hf⟩ := hf
      refine xl_mEventD C hP h17 dX11_isMet_81 ?_
      replace hf := xsBd_use hf
      obtain ⟨o18, h19, hf⟩ := hf
      refine xs_calli hS (xs_runS (As := [.long o11.toInt64, .long o13.toInt64, .long (1 : Int64), .long (mEventX a1.toNatClampNeg), .long (mEventY a1.toNatClampNeg), .long (mEventD a1.toNatClampNeg)]) C (mX11_against l  h19) w_1654 w_1655 w_115 w_1656 hd_X11_against ⟨rfl, rfl, Nat.le_of_ble_eq_true rfl, Nat.le_of_ble_eq_true rfl, Nat.zero_le _, Nat.zero_le _⟩ hP hD hS hl.1 rfl (Nat.le_of_ble_eq_true rfl) dX11_isMet_82) (fun H locs hP hD hS => ?_)
      refine lv_if_le (tgt := 92) hx hb dX11_isMet_85 (by decide) (fun c20 => ?_) (fun c20 => ?_)
      · replace hf := xsBr_t c20 hf
        refine lv_iconst (v := (0 : Int32)) hx hb dX11_isMet_92 (by decide) ?_
        have ho := Option.some.inj hf
        subst ho
        rw [hQq]
        exact xs_zret C hr hlk xsB_0 hP hD hS dX11_isMet_93
      · replace hf := xsBr_f c20 hf
        refine lv_iconst (v := (1 : Int32)) hx hb dX11_isMet_88 (by decide) ?_
        refine lv_goto (tgt := 93) hx hb dX11_isMet_89 (by decide) ?_
        have ho := Option.some.inj hf
        subst ho
        rw [hQq]
        exact xs_zret C hr hlk xsB_1 hP hD hS dX11_isMet_93
  replace hf := xsBd_use hf
  obtain ⟨v22, hf, hk23⟩ := hf
  refine lv_if_gt (tgt := 43) hx hb dX11_isMet_36 (by decide) (fun c25 => ?_) (fun c25 => ?_)
  · replace hf := xsBr_t c25 hf
    refine lv_iconst (v := (0 : Int32)) hx hb dX11_isMet_43 (by decide) ?_
    have ev := Option.some.inj hf
    subst ev
    exact K24 (0 : Int32) hk23 H locs ls hP hD hS (lv_sub hl [0, 1, 2] rfl)
  · replace hf := xsBr_f c25 hf
    refine lv_iconst (v := (1 : Int32)) hx hb dX11_isMet_39 (by decide) ?_
    refine lv_goto (tgt := 44) hx hb dX11_isMet_40 (by decide) ?_
    have ev := Option.some.inj hf
    subst ev
    exact K24 (1 : Int32) hk23 H locs ls hP hD hS (lv_sub hl [0, 1, 2] rfl)
set_option maxRecDepth 100000 in
set_option maxHeartbeats 8000000 in
theorem mX11_laysStatus (l : Launch) {X : xsX} {mThrown mRemembered mHasImage mIsLaid mEvents mCrossings mEdges mTaped mPoint mEnd mBegin mFaultAt mActs : Int32} {mWorld mImage mDraft mEarlier mOne mTwo mShare mCrossingOf mBundle mEventOf mDegree mFrom mTo mMet mTape mFive mTold mFar mViews mHullX mHullY mEndX mEndY mMeets mMeetsOf : Nat → Int32} {mX mY mD mHeightUp mHeightLow : Int64} {mEventX mEventY mEventD mUpper mLower : Nat → Int64} {Rw : va_W} {a0 : Int32} {out : Int32 × (Nat → Int32) × (Nat → Int64) × (Nat → Int64)} (hf : fX11_laysStatus mWorld mEventX mEventY mEventD mMet mUpper mLower a0 = some out) : Met l yX11_laysStatus (xsWs yX11_laysStatus cX11_laysStatus 5 (some .int)) { frames := 4, cells := 0, slots := 0, locals := 92 } (xsP X (wM X mThrown mWorld mImage mDraft mEarlier mRemembered mHasImage mIsLaid mOne mTwo mShare mX mY mD mEventX mEventY mEventD mEvents mCrossingOf mBundle mEventOf mDegree mFrom mTo mCrossings mEdges mMet mUpper mLower mTape mTaped mPoint mEnd mBegin mFaultAt mFive mTold mActs mFar mViews mHullX mHullY mEndX mEndY mHeightUp mHeightLow mMeets mMeetsOf Rw) [.ref (xsA X 100), .int a0]) (xsQi X out.1 (wM X mThrown mWorld mImage mDraft mEarlier mRemembered mHasImage mIsLaid mOne mTwo mShare mX mY mD mEventX mEventY mEventD mEvents mCrossingOf mBundle mEventOf mDegree mFrom mTo mCrossings mEdges out.2.1 out.2.2.1 out.2.2.2 mTape mTaped mPoint mEnd mBegin mFaultAt mFive mTold mActs mFar mViews mHullX mHullY mEndX mEndY mHeightUp mHeightLow mMeets mMeetsOf Rw)) 0 0 (xsF X) := by
  refine xs_meth RX11 (by decide) rfl (Nat.le_of_ble_eq_true rfl) ?_
  intro p e s m below meth c ls H locs C hP hD hS hr hlk hl
  have hx := C.1
  have hb := C.2.1
  have hl : lv_has ls 5 [(0, .ref (xsA X 100)), (1, .int a0)] := hl
  obtain ⟨Qq, hQq⟩ : ∃ Qq, Qq = xsQi X out.1 (wM X mThrown mWorld mImage mDraft mEarlier mRemembered mHasImage mIsLaid mOne mTwo mShare mX mY mD mEventX mEventY mEventD mEvents mCrossingOf mBundle mEventOf mDegree mFrom mTo mCrossings mEdges out.2.1 out.2.2.1 out.2.2.2 mTape mTaped mPoint mEnd mBegin mFaultAt mFive mTold mActs mFar mViews mHullX mHullY mEndX mEndY mHeightUp mHeightLow mMeets mMeetsOf Rw) := ⟨_, rfl⟩
  rw [← hQq]
  unfold fX11_laysStatus at hf
  refine lv_iconst (v := (0 : Int32)) hx hb dX11_laysStatus_0 (by decide) ?_
  refine lv_istore_n (lv' := [(2, .int (0 : Int32)), (0, .ref (xsA X 100)), (1, .int a0)]) hx hb dX11_laysStatus_1 rfl hl (by decide) rfl (fun ls hl => ?_)
  refine lv_iconst (v := (0 : Int32)) hx hb dX11_laysStatus_2 (by decide) ?_
  refine lv_istore_n (lv' := [(3, .int (0 : Int32)), (2, .int (0 : Int32)), (0, .ref (xsA X 100)), (1, .int a0)]) hx hb dX11_laysStatus_3 rfl hl (by decide) rfl (fun ls hl => ?_)
  have K6 : ∀ (y7 : Int32) (y8 : Nat → Int32) (y9 : Nat → Int64) (y10 : Nat → Int64) (hf : fX11_laysStatus_J95 y7 y8 y9 y10 = some out) (H : Heap) (locs : List Loc) (ls : Array Slot), va_P (xsD X) vwCl (wM X mThrown mWorld mImage mDraft mEarlier mRemembered mHasImage mIsLaid mOne mTwo mShare mX mY mD mEventX mEventY mEventD mEvents mCrossingOf mBundle mEventOf mDegree mFrom mTo mCrossings mEdges y8 y9 y10 mTape mTaped mPoint mEnd mBegin mFaultAt mFive mTold mActs mFar mViews mHullX mHullY mEndX mEndY mHeightUp mHeightLow mMeets mMeetsOf Rw) H → va_D (xsF X) (wM X mThrown mWorld mImage mDraft mEarlier mRemembered mHasImage mIsLaid mOne mTwo mShare mX mY mD mEventX mEventY mEventD mEvents mCrossingOf mBundle mEventOf mDegree mFrom mTo mCrossings mEdges y8 y9 y10 mTape mTaped mPoint mEnd mBegin mFaultAt mFive mTold mActs mFar mViews mHullX mHullY mEndX mEndY mHeightUp mHeightLow mMeets mMeetsOf Rw) → va_S (xsF X) s.heap H locs → lv_has ls 5 [(2, .int y7)] → W p l e { frames := 4, cells := 0, slots := 0, locals := 92 } s m ([.ref (xsA X 100), .int a0] : List Value).toArray below meth c H locs 0 0 (MQ below Qq ([.ref (xsA X 100), .int a0] : List Value).toArray s 0 0 (xsF X)) (F0 m 95 ls []) := by
    intro y7 y8 y9 y10 hf H locs ls hP hD hS hl
    unfold fX11_laysStatus_J95 at hf
    refine lv_iload_n hx hb dX11_laysStatus_95 rfl (lv_at hl 0 rfl) ?_
    have ho := Option.some.inj hf
    subst ho
    rw [hQq]
    exact xs_iret C hr hlk hP hD hS dX11_laysStatus_96
  replace hf := xsBd_use hf
  obtain ⟨r6, hk60, hf⟩ := hf
  have L6 : ∀ (sg : Int32 × Int32 × (Nat → Int32) × (Nat → Int64) × (Nat → Int64)) (rg : Int32 × (Nat → Int32) × (Nat → Int64) × (Nat → Int64)), xsWh (fun s6 => fX11_laysStatus_L4 mWorld mEventX mEventY mEventD a0 s6.1 s6.2.1 s6.2.2.1 s6.2.2.2.1 s6.2.2.2.2) sg = some rg → (fX11_laysStatus_J95 rg.1 rg.2.1 rg.2.2.1 rg.2.2.2 = some out → ∀ (H : Heap) (locs : List Loc) (ls : Array Slot), va_P (xsD X) vwCl (wM X mThrown mWorld mImage mDraft mEarlier mRemembered mHasImage mIsLaid mOne mTwo mShare mX mY mD mEventX mEventY mEventD mEvents mCrossingOf mBundle mEventOf mDegree mFrom mTo mCrossings mEdges sg.2.2.1 sg.2.2.2.1 sg.2.2.2.2 mTape mTaped mPoint mEnd mBegin mFaultAt mFive mTold mActs mFar mViews mHullX mHullY mEndX mEndY mHeightUp mHeightLow mMeets mMeetsOf Rw) H → va_D (xsF X) (wM X mThrown mWorld mImage mDraft mEarlier mRemembered mHasImage mIsLaid mOne mTwo mShare mX mY mD mEventX mEventY mEventD mEvents mCrossingOf mBundle mEventOf mDegree mFrom mTo mCrossings mEdges sg.2.2.1 sg.2.2.2.1 sg.2.2.2.2 mTape mTaped mPoint mEnd mBegin mFaultAt mFive mTold mActs mFar mViews mHullX mHullY mEndX mEndY mHeightUp mHeightLow mMeets mMeetsOf Rw) → va_S (xsF X) s.heap H locs → lv_has ls 5 [(0, .ref (xsA X 100)), (1, .int a0), (2, .int sg.1), (3, .int sg.2.1)] → W p l e { frames := 4, cells := 0, slots := 0, locals := 92 } s m ([.ref (xsA X 100), .int a0] : List Value).toArray below meth c H locs 0 0 (MQ below Qq ([.ref (xsA X 100), .int a0] : List Value).toArray s 0 0 (xsF X)) (F0 m 4 ls [])) := by
    refine xsWh_ind ?_
    intro sg r6 u6 hf ih6 hx6 hk6 H locs ls hP hD hS hl
    obtain ⟨y1, y2, y3, y4, y5⟩ := sg
    replace hf : fX11_laysStatus_L4 mWorld mEventX mEventY mEventD a0 y1 y2 y3 y4 y5 = some u6 := hf
    replace hl : lv_has ls 5 [(0, .ref (xsA X 100)), (1, .int a0), (2, .int y1), (3, .int y2)] := hl
    replace hP : va_P (xsD X) vwCl (wM X mThrown mWorld mImage mDraft mEarlier mRemembered mHasImage mIsLaid mOne mTwo mShare mX mY mD mEventX mEventY mEventD mEvents mCrossingOf mBundle mEventOf mDegree mFrom mTo mCrossings mEdges y3 y4 y5 mTape mTaped mPoint mEnd mBegin mFaultAt mFive mTold mActs mFar mViews mHullX mHullY mEndX mEndY mHeightUp mHeightLow mMeets mMeetsOf Rw) H := hP
    replace hD : va_D (xsF X) (wM X mThrown mWorld mImage mDraft mEarlier mRemembered mHasImage mIsLaid mOne mTwo mShare mX mY mD mEventX mEventY mEventD mEvents mCrossingOf mBundle mEventOf mDegree mFrom mTo mCrossings mEdges y3 y4 y5 mTape mTaped mPoint mEnd mBegin mFaultAt mFive mTold mActs mFar mViews mHullX mHullY mEndX mEndY mHeightUp mHeightLow mMeets mMeetsOf Rw) := hD
    unfold fX11_laysStatus_L4 at hf
    refine lv_iload_n hx hb dX11_laysStatus_4 rfl (lv_at hl 3 rfl) ?_
    refine lv_aload_n hx hb dX11_laysStatus_5 rfl (lv_at hl 0 rfl) ?_
    replace hf := xsBd_use hf
    obtain ⟨o11, h12, hf⟩ := hf
    refine xs_calli hS (xs_runV (As := []) C (mX11_many l  h12) w_1581 w_1583 w_44 w_115 w_1584 hd_X11_many ⟨rfl, rfl, Nat.le_of_ble_eq_true rfl, Nat.le_of_ble_eq_true rfl, Nat.zero_le _, Nat.zero_le _⟩ hP hD hS lk_X11 rfl hl.1 rfl (Nat.le_of_ble_eq_true rfl) dX11_laysStatus_6) (fun H locs hP hD hS => ?_)
    refine lv_icmp_ge (tgt := 95) hx hb dX11_laysStatus_9 (by decide) (fun c43 => ?_) (fun c43 => ?_)
    · replace hf := xsBr_t c43 hf
      have ez := hx6 _ (Option.some.inj hf).symm
      subst ez
      exact K6 y1 y3 y4 y5 hk6 H locs ls hP hD hS (lv_sub hl [2] rfl)
    · replace hf := xsBr_f c43 hf
      refine lv_aload_n hx hb dX11_laysStatus_12 rfl (lv_at hl 0 rfl) ?_
      refine lv_iload_n hx hb dX11_laysStatus_13 rfl (lv_at hl 3 rfl) ?_
      refine lv_iload_n hx hb dX11_laysStatus_14 rfl (lv_at hl 1 rfl) ?_
      replace hf := xsBd_use hf
      obtain ⟨o13, h14, hf⟩ := hf
      refine xs_calli hS (xs_runV (As := [.int y2, .int a0]) C (mX11_isMet l  h14) w_1827 w_1829 w_83 w_115 w_1830 hd_X11_isMet ⟨rfl, rfl, Nat.le_of_ble_eq_true rfl, Nat.le_of_ble_eq_true rfl, Nat.zero_le _, Nat.zero_le _⟩ hP hD hS lk_X11 rfl hl.1 rfl (Nat.le_of_ble_eq_true rfl) dX11_laysStatus_15) (fun H locs hP hD hS => ?_)
      have K22 : ∀ (y15 : Int32) (y16 : Nat → Int32) (y17 : Nat → Int64) (y18 : Nat → Int64) (hf : fX11_laysStatus_J89 y2 y15 y16 y17 y18 = some u6) (H : Heap) (locs : List Loc) (ls : Array Slot), va_P (xsD X) vwCl (wM X mThrown mWorld mImage mDraft mEarlier mRemembered mHasImage mIsLaid mOne mTwo mShare mX mY mD mEventX mEventY mEventD mEvents mCrossingOf mBundle mEventOf mDegree mFrom mTo mCrossings mEdges y16 y17 y18 mTape mTaped mPoint mEnd mBegin mFaultAt mFive mTold mActs mFar mViews mHullX mHullY mEndX mEndY mHeightUp mHeightLow mMeets mMeetsOf Rw) H → va_D (xsF X) (wM X mThrown mWorld mImage mDraft mEarlier mRemembered mHasImage mIsLaid mOne mTwo mShare mX mY mD mEventX mEventY mEventD mEvents mCrossingOf mBundle mEventOf mDegree mFrom mTo mCrossings mEdges y16 y17 y18 mTape mTaped mPoint mEnd mBegin mFaultAt mFive mTold mActs mFar mViews mHullX mHullY mEndX mEndY mHeightUp mHeightLow mMeets mMeetsOf Rw) → va_S (xsF X) s.heap H locs → lv_has ls 5 [(0, .ref (xsA X 100)), (1, .int a0), (2, .int y15), (3, .int y2)] → W p l e { frames := 4, cells := 0, slots := 0, locals := 92 } s m ([.ref (xsA X 100), .int a0] : List Value).toArray below meth c H locs 0 0 (MQ below Qq ([.ref (xsA X 100), .int a0] : List Value).toArray s 0 0 (xsF X)) (F0 m 89 ls []) := by
        intro y15 y16 y17 y18 hf H locs ls hP hD hS hl
        unfold fX11_laysStatus_J89 at hf
        obtain ⟨x19, ex19⟩ : ∃ y : Int32, y = y2 + (1 : Int32) := ⟨_, rfl⟩
        replace hf := xsLt_use ex19 hf
        refine lv_iinc (v := x19) (lv' := [(3, .int x19), (0, .ref (xsA X 100)), (1, .int a0), (2, .int y15)]) hx hb dX11_laysStatus_89 hl (k := 3) rfl (by rw [ex19]; rfl) (by decide) rfl (fun ls hl => ?_)
        refine lv_goto (tgt := 4) hx hb dX11_laysStatus_92 (by decide) ?_
        exact ih6 _ (Option.some.inj hf).symm hk6 H locs ls hP hD hS (lv_sub hl [1, 2, 3, 0] rfl)
      replace hf := xsBd_use hf
      obtain ⟨v20, hf, hk21⟩ := hf
      refine lv_if_ne (tgt := 24) hx hb dX11_laysStatus_18 (by decide) (fun c42 => ?_) (fun c42 => ?_)
      · replace hf := xsBr_f c42 hf
        refine lv_aload_n hx hb dX11_laysStatus_24 rfl (lv_at hl 0 rfl) ?_
        refine lv_iload_n hx hb dX11_laysStatus_25 rfl (lv_at hl 3 rfl) ?_
        refine lv_iload_n hx hb dX11_laysStatus_26 rfl (lv_at hl 1 rfl) ?_
        replace hf := xsBd_use hf
        obtain ⟨o23, h24, hf⟩ := hf
        refine xs_callv hS (xs_runV (As := [.int y2, .int a0]) C (mX11_laysY l  h24) w_1831 w_1833 w_84 w_115 w_1834 hd_X11_laysY ⟨rfl, rfl, Nat.le_of_ble_eq_true rfl, Nat.le_of_ble_eq_true rfl, Nat.zero_le _, Nat.zero_le _⟩ hP hD hS lk_X11 rfl hl.1 rfl (Nat.le_of_ble_eq_true rfl) dX11_laysStatus_27) (fun H locs hP hD hS => ?_)
        refine lv_iload_n hx hb dX11_laysStatus_30 rfl (lv_at hl 2 rfl) ?_
        refine lv_istore (lv' := [(4, .int y1), (0, .ref (xsA X 100)), (1, .int a0), (2, .int y1), (3, .int y2)]) hx hb dX11_laysStatus_31 hl (by decide) rfl (fun ls hl => ?_)
        have K27 : ∀ (y28 : Int32) (y29 : Nat → Int32) (hf : fX11_laysStatus_J78 y1 y2 o23 y28 y29 = some v20) (H : Heap) (locs : List Loc) (ls : Array Slot), va_P (xsD X) vwCl (wM X mThrown mWorld mImage mDraft mEarlier mRemembered mHasImage mIsLaid mOne mTwo mShare mX mY mD mEventX mEventY mEventD mEvents mCrossingOf mBundle mEventOf mDegree mFrom mTo mCrossings mEdges y29 o23.1 o23.2 mTape mTaped mPoint mEnd mBegin mFaultAt mFive mTold mActs mFar mViews mHullX mHullY mEndX mEndY mHeightUp mHeightLow mMeets mMeetsOf Rw) H → va_D (xsF X) (wM X mThrown mWorld mImage mDraft mEarlier mRemembered mHasImage mIsLaid mOne mTwo mShare mX mY mD mEventX mEventY mEventD mEvents mCrossingOf mBundle mEventOf mDegree mFrom mTo mCrossings mEdges y29 o23.1 o23.2 mTape mTaped mPoint mEnd mBegin mFaultAt mFive mTold mActs mFar mViews mHullX mHullY mEndX mEndY mHeightUp mHeightLow mMeets mMeetsOf Rw) → va_S (xsF X) s.heap H locs → lv_has ls 5 [(0, .ref (xsA X 100)), (1, .int a0), (2, .int y1), (3, .int y2), (4, .int y28)] → W p l e { frames := 4, cells := 0, slots := 0, locals := 92 } s m ([.ref (xsA X 100), .int a0] : List Value).toArray below meth c H locs 0 0 (MQ below Qq ([.ref (xsA X 100), .int a0] : List Value).toArray s 0 0 (xsF X)) (F0 m 78 ls []) := by
          intro y28 y29 hf H locs ls hP hD hS hl
          unfold fX11_laysStatus_J78 at hf
          refine lv_aload_n hx hb dX11_laysStatus_78 rfl (lv_at hl 0 rfl) ?_
          refine xg_X11_63 C hP dX11_laysStatus_79 ?_
          refine lv_iload hx hb dX11_laysStatus_82 (lv_at hl 4 rfl) ?_
          refine lv_iload_n hx hb dX11_laysStatus_84 rfl (lv_at hl 3 rfl) ?_
          replace hf := xsCk_use hf
          obtain ⟨h30, hf⟩ := hf
          refine xs_mMet C hP hD hS h30 dX11_laysStatus_85 (fun f31 ef31 H locs hP hD hS => ?_)
          replace hf := xsLt_use ef31 hf
          obtain ⟨x32, ex32⟩ : ∃ y : Int32, y = y1 + (1 : Int32) := ⟨_, rfl⟩
          replace hf := xsLt_use ex32 hf
          refine lv_iinc (v := x32) (lv' := [(2, .int x32), (0, .ref (xsA X 100)), (1, .int a0), (3, .int y2), (4, .int y28)]) hx hb dX11_laysStatus_86 hl (k := 2) rfl (by rw [ex32]; rfl) (by decide) rfl (fun ls hl => ?_)
          have ev := Option.some.inj hf
          subst ev
          exact K22 x32 f31 o23.1 o23.2 hk21 H locs ls hP hD hS (lv_sub hl [1, 2, 0, 3] rfl)
        replace hf := xsBd_use hf
        obtain ⟨r27, hk270, hf⟩ := hf
        have L27 : ∀ (sg : Int32 × (Nat → Int32)) (rg : Int32 × (Nat → Int32)), xsWh (fun s27 => fX11_laysStatus_L33 mWorld mEventY a0 y2 o23 s27.1 s27.2) sg = some rg → (fX11_laysStatus_J78 y1 y2 o23 rg.1 rg.2 = some v20 → ∀ (H : Heap) (locs : List Loc) (ls : Array Slot), va_P (xsD X) vwCl (wM X mThrown mWorld mImage mDraft mEarlier mRemembered mHasImage mIsLaid mOne mTwo mShare mX mY mD mEventX mEventY mEventD mEvents mCrossingOf mBundle mEventOf mDegree mFrom mTo mCrossings mEdges sg.2 o23.1 o23.2 mTape mTaped mPoint mEnd mBegin mFaultAt mFive mTold mActs mFar mViews mHullX mHullY mEndX mEndY mHeightUp mHeightLow mMeets mMeetsOf Rw) H → va_D (xsF X) (wM X mThrown mWorld mImage mDraft mEarlier mRemembered mHasImage mIsLaid mOne mTwo mShare mX mY mD mEventX mEventY mEventD mEvents mCrossingOf mBundle mEventOf mDegree mFrom mTo mCrossings mEdges sg.2 o23.1 o23.2 mTape mTaped mPoint mEnd mBegin mFaultAt mFive mTold mActs mFar mViews mHullX mHullY mEndX mEndY mHeightUp mHeightLow mMeets mMeetsOf Rw) → va_S (xsF X) s.heap H locs → lv_has ls 5 [(0, .ref (xsA X 100)), (1, .int a0), (2, .int y1), (3, .int y2), (4, .int sg.1)] → W p l e { frames := 4, cells := 0, slots := 0, locals := 92 } s m ([.ref (xsA X 100), .int a0] : List Value).toArray below meth c H locs 0 0 (MQ below Qq ([.ref (xsA X 100), .int a0] : List Value).toArray s 0 0 (xsF X)) (F0 m 33 ls [])) := by
          refine xsWh_ind ?_
          intro sg r27 u27 hf ih27 hx27 hk27 H locs ls hP hD hS hl
          obtain ⟨y25, y26⟩ := sg
          replace hf : fX11_laysStatus_L33 mWorld mEventY a0 y2 o23 y25 y26 = some u27 := hf
          replace hl : lv_has ls 5 [(0, .ref (xsA X 100)), (1, .int a0), (2, .int y1), (3, .int y2), (4, .int y25)] := hl
          replace hP : va_P (xsD X) vwCl (wM X mThrown mWorld mImage mDraft mEarlier mRemembered mHasImage mIsLaid mOne mTwo mShare mX mY mD mEventX mEventY mEventD mEvents mCrossingOf mBundle mEventOf mDegree mFrom mTo mCrossings mEdges y26 o23.1 o23.2 mTape mTaped mPoint mEnd mBegin mFaultAt mFive mTold mActs mFar mViews mHullX mHullY mEndX mEndY mHeightUp mHeightLow mMeets mMeetsOf Rw) H := hP
          replace hD : va_D (xsF X) (wM X mThrown mWorld mImage mDraft mEarlier mRemembered mHasImage mIsLaid mOne mTwo mShare mX mY mD mEventX mEventY mEventD mEvents mCrossingOf mBundle mEventOf mDegree mFrom mTo mCrossings mEdges y26 o23.1 o23.2 mTape mTaped mPoint mEnd mBegin mFaultAt mFive mTold mActs mFar mViews mHullX mHullY mEndX mEndY mHeightUp mHeightLow mMeets mMeetsOf Rw) := hD
          unfold fX11_laysStatus_L33 at hf
          refine lv_iload hx hb dX11_laysStatus_33 (lv_at hl 4 rfl) ?_
          refine lv_if_le (tgt := 78) hx hb dX11_laysStatus_35 (by decide) (fun c41 => ?_) (fun c41 => ?_)
          · replace hf := xsBr_t c41 hf
            have ez := hx27 _ (Option.some.inj hf).symm
            subst ez
            exact K27 y25 y26 hk27 H locs ls hP hD hS (lv_sub hl [0, 1, 2, 3, 4] rfl)
          · replace hf := xsBr_f c41 hf
            refine lv_aload_n hx hb dX11_laysStatus_38 rfl (lv_at hl 0 rfl) ?_
            refine lv_iload_n hx hb dX11_laysStatus_39 rfl (lv_at hl 3 rfl) ?_
            refine lv_aload_n hx hb dX11_laysStatus_40 rfl (lv_at hl 0 rfl) ?_
            refine xg_X11_63 C hP dX11_laysStatus_41 ?_
            refine lv_iload hx hb dX11_laysStatus_44 (lv_at hl 4 rfl) ?_
            refine lv_iconst (v := (1 : Int32)) hx hb dX11_laysStatus_46 (by decide) ?_
            refine lv_isub hx hb dX11_laysStatus_47 ?_
            replace hf := xsCk_use hf
            obtain ⟨h33, hf⟩ := hf
            refine xl_mMet C hP h33 dX11_laysStatus_48 ?_
            refine lv_iload_n hx hb dX11_laysStatus_49 rfl (lv_at hl 1 rfl) ?_
            replace hf := xsBd_use hf
            obtain ⟨o34, h35, hf⟩ := hf
            refine xs_calli hS (xs_runV (As := [.int y2, .int (y26 (y25 - (1 : Int32)).toNatClampNeg), .int a0]) C (mX11_isBelow l  h35) w_1835 w_1837 w_85 w_115 w_1838 hd_X11_isBelow ⟨rfl, rfl, Nat.le_of_ble_eq_true rfl, Nat.le_of_ble_eq_true rfl, Nat.zero_le _, Nat.zero_le _⟩ hP hD hS lk_X11 rfl hl.1 rfl (Nat.le_of_ble_eq_true rfl) dX11_laysStatus_50) (fun H locs hP hD hS => ?_)
            refine lv_if_eq (tgt := 78) hx hb dX11_laysStatus_53 (by decide) (fun c40 => ?_) (fun c40 => ?_)
            · replace hf := xsBr_t c40 hf
              have ez := hx27 _ (Option.some.inj hf).symm
              subst ez
              exact K27 y25 y26 hk27 H locs ls hP hD hS (lv_sub hl [0, 1, 2, 3, 4] rfl)
            · replace hf := xsBr_f c40 hf
              refine lv_aload_n hx hb dX11_laysStatus_56 rfl (lv_at hl 0 rfl) ?_
              refine xg_X11_63 C hP dX11_laysStatus_57 ?_
              refine lv_iload hx hb dX11_laysStatus_60 (lv_at hl 4 rfl) ?_
              refine lv_aload_n hx hb dX11_laysStatus_62 rfl (lv_at hl 0 rfl) ?_
              refine xg_X11_63 C hP dX11_laysStatus_63 ?_
              refine lv_iload hx hb dX11_laysStatus_66 (lv_at hl 4 rfl) ?_
              refine lv_iconst (v := (1 : Int32)) hx hb dX11_laysStatus_68 (by decide) ?_
              refine lv_isub hx hb dX11_laysStatus_69 ?_
              replace hf := xsCk_use hf
              obtain ⟨h36, hf⟩ := hf
              refine xl_mMet C hP h36 dX11_laysStatus_70 ?_
              replace hf := xsCk_use hf
              obtain ⟨h37, hf⟩ := hf
              refine xs_mMet C hP hD hS h37 dX11_laysStatus_71 (fun f38 ef38 H locs hP hD hS => ?_)
              replace hf := xsLt_use ef38 hf
              obtain ⟨x39, ex39⟩ : ∃ y : Int32, y = y25 + (-1 : Int32) := ⟨_, rfl⟩
              replace hf := xsLt_use ex39 hf
              refine lv_iinc (v := x39) (lv' := [(4, .int x39), (0, .ref (xsA X 100)), (1, .int a0), (2, .int y1), (3, .int y2)]) hx hb dX11_laysStatus_72 hl (k := 4) rfl (by rw [ex39]; rfl) (by decide) rfl (fun ls hl => ?_)
              refine lv_goto (tgt := 33) hx hb dX11_laysStatus_75 (by decide) ?_
              exact ih27 _ (Option.some.inj hf).symm hk27 H locs ls hP hD hS (lv_sub hl [1, 2, 3, 4, 0] rfl)
        exact L27 (y1, y3) r27 hk270 hf H locs ls hP hD hS (lv_sub hl [1, 2, 3, 4, 0] rfl)
      · replace hf := xsBr_t c42 hf
        refine lv_goto (tgt := 89) hx hb dX11_laysStatus_21 (by decide) ?_
        have ev := Option.some.inj hf
        subst ev
        exact K22 y1 y3 y4 y5 hk21 H locs ls hP hD hS (lv_sub hl [0, 1, 2, 3] rfl)
  exact L6 ((0 : Int32), (0 : Int32), mMet, mUpper, mLower) r6 hk60 hf H locs ls hP hD hS (lv_sub hl [2, 3, 1, 0] rfl)
set_option maxRecDepth 100000 in
set_option maxHeartbeats 8000000 in
theorem mX11_feed (l : Launch) {X : xsX} {mThrown mRemembered mHasImage mIsLaid mEvents mCrossings mEdges mTaped mPoint mEnd mBegin mFaultAt mActs : Int32} {mWorld mImage mDraft mEarlier mOne mTwo mShare mCrossingOf mBundle mEventOf mDegree mFrom mTo mMet mTape mFive mTold mFar mViews mHullX mHullY mEndX mEndY mMeets mMeetsOf : Nat → Int32} {mX mY mD mHeightUp mHeightLow : Int64} {mEventX mEventY mEventD mUpper mLower : Nat → Int64} {Rw : va_W} {a0 : Int32} {a1 : Int32} {a2 : Int32} {a3 : Int32} {a4 : Int32} {out : Int32 × Int32 × (Nat → Int32) × Int32 × (Nat → Int32)} (hf : fX11_feed mThrown mTape mTaped mFive a0 a1 a2 a3 a4 = some out) : Met l yX11_feed (xsWs yX11_feed cX11_feed 7 (some .int)) { frames := 0, cells := 0, slots := 0, locals := 0 } (xsP X (wM X mThrown mWorld mImage mDraft mEarlier mRemembered mHasImage mIsLaid mOne mTwo mShare mX mY mD mEventX mEventY mEventD mEvents mCrossingOf mBundle mEventOf mDegree mFrom mTo mCrossings mEdges mMet mUpper mLower mTape mTaped mPoint mEnd mBegin mFaultAt mFive mTold mActs mFar mViews mHullX mHullY mEndX mEndY mHeightUp mHeightLow mMeets mMeetsOf Rw) [.ref (xsA X 100), .int a0, .int a1, .int a2, .int a3, .int a4]) (xsQi X out.1 (wM X out.2.1 mWorld mImage mDraft mEarlier mRemembered mHasImage mIsLaid mOne mTwo mShare mX mY mD mEventX mEventY mEventD mEvents mCrossingOf mBundle mEventOf mDegree mFrom mTo mCrossings mEdges mMet mUpper mLower out.2.2.1 out.2.2.2.1 mPoint mEnd mBegin mFaultAt out.2.2.2.2 mTold mActs mFar mViews mHullX mHullY mEndX mEndY mHeightUp mHeightLow mMeets mMeetsOf Rw)) 0 0 (xsF X) := by
  refine xs_meth RX11 (by decide) rfl (Nat.le_of_ble_eq_true rfl) ?_
  intro p e s m below meth c ls H locs C hP hD hS hr hlk hl
  have hx := C.1
  have hb := C.2.1
  have hl : lv_has ls 7 [(0, .ref (xsA X 100)), (1, .int a0), (2, .int a1), (3, .int a2), (4, .int a3), (5, .int a4)] := hl
  obtain ⟨Qq, hQq⟩ : ∃ Qq, Qq = xsQi X out.1 (wM X out.2.1 mWorld mImage mDraft mEarlier mRemembered mHasImage mIsLaid mOne mTwo mShare mX mY mD mEventX mEventY mEventD mEvents mCrossingOf mBundle mEventOf mDegree mFrom mTo mCrossings mEdges mMet mUpper mLower out.2.2.1 out.2.2.2.1 mPoint mEnd mBegin mFaultAt out.2.2.2.2 mTold mActs mFar mViews mHullX mHullY mEndX mEndY mHeightUp mHeightLow mMeets mMeetsOf Rw) := ⟨_, rfl⟩
  rw [← hQq]
  unfold fX11_feed at hf
  refine lv_aload_n hx hb dX11_feed_0 rfl (lv_at hl 0 rfl) ?_
  refine lv_iconst (v := (0 : Int32)) hx hb dX11_feed_1 (by decide) ?_
  refine xp_X11_3 C hP hD hS dX11_feed_2 (fun H locs hP hD hS => ?_)
  refine lv_aload_n hx hb dX11_feed_5 rfl (lv_at hl 0 rfl) ?_
  refine xg_X11_244 C hP dX11_feed_6 ?_
  refine lv_bipush (v := (20 : Int32)) hx hb dX11_feed_9 (by decide) ?_
  refine lv_iadd hx hb dX11_feed_11 ?_
  refine lv_sipush (v := (400 : Int32)) hx hb dX11_feed_12 (by decide) ?_
  refine lv_icmp_le (tgt := 20) hx hb dX11_feed_15 (by decide) (fun c23 => ?_) (fun c23 => ?_)
  · replace hf := xsBr_t c23 hf
    refine lv_aload_n hx hb dX11_feed_20 rfl (lv_at hl 0 rfl) ?_
    refine xg_X11_79 C hP dX11_feed_21 ?_
    refine lv_iconst (v := (0 : Int32)) hx hb dX11_feed_24 (by decide) ?_
    refine lv_iload_n hx hb dX11_feed_25 rfl (lv_at hl 1 rfl) ?_
    replace hf := xsCk_use hf
    obtain ⟨h1, hf⟩ := hf
    refine xs_mFive C hP hD hS h1 dX11_feed_26 (fun f2 ef2 H locs hP hD hS => ?_)
    replace hf := xsLt_use ef2 hf
    refine lv_aload_n hx hb dX11_feed_27 rfl (lv_at hl 0 rfl) ?_
    refine xg_X11_79 C hP dX11_feed_28 ?_
    refine lv_iconst (v := (1 : Int32)) hx hb dX11_feed_31 (by decide) ?_
    refine lv_iload_n hx hb dX11_feed_32 rfl (lv_at hl 2 rfl) ?_
    replace hf := xsCk_use hf
    obtain ⟨h3, hf⟩ := hf
    refine xs_mFive C hP hD hS h3 dX11_feed_33 (fun f4 ef4 H locs hP hD hS => ?_)
    replace hf := xsLt_use ef4 hf
    refine lv_aload_n hx hb dX11_feed_34 rfl (lv_at hl 0 rfl) ?_
    refine xg_X11_79 C hP dX11_feed_35 ?_
    refine lv_iconst (v := (2 : Int32)) hx hb dX11_feed_38 (by decide) ?_
    refine lv_iload_n hx hb dX11_feed_39 rfl (lv_at hl 3 rfl) ?_
    replace hf := xsCk_use hf
    obtain ⟨h5, hf⟩ := hf
    refine xs_mFive C hP hD hS h5 dX11_feed_40 (fun f6 ef6 H locs hP hD hS => ?_)
    replace hf := xsLt_use ef6 hf
    refine lv_aload_n hx hb dX11_feed_41 rfl (lv_at hl 0 rfl) ?_
    refine xg_X11_79 C hP dX11_feed_42 ?_
    refine lv_iconst (v := (3 : Int32)) hx hb dX11_feed_45 (by decide) ?_
    refine lv_iload hx hb dX11_feed_46 (lv_at hl 4 rfl) ?_
    replace hf := xsCk_use hf
    obtain ⟨h7, hf⟩ := hf
    refine xs_mFive C hP hD hS h7 dX11_feed_48 (fun f8 ef8 H locs hP hD hS => ?_)
    replace hf := xsLt_use ef8 hf
    refine lv_aload_n hx hb dX11_feed_49 rfl (lv_at hl 0 rfl) ?_
    refine xg_X11_79 C hP dX11_feed_50 ?_
    refine lv_iconst (v := (4 : Int32)) hx hb dX11_feed_53 (by decide) ?_
    refine lv_iload hx hb dX11_feed_54 (lv_at hl 5 rfl) ?_
    replace hf := xsCk_use hf
    obtain ⟨h9, hf⟩ := hf
    refine xs_mFive C hP hD hS h9 dX11_feed_56 (fun f10 ef10 H locs hP hD hS => ?_)
    replace hf := xsLt_use ef10 hf
    refine lv_iconst (v := (0 : Int32)) hx hb dX11_feed_57 (by decide) ?_
    refine lv_istore (lv' := [(6, .int (0 : Int32)), (0, .ref (xsA X 100)), (1, .int a0), (2, .int a1), (3, .int a2), (4, .int a3), (5, .int a4)]) hx hb dX11_feed_58 hl (by decide) rfl (fun ls hl => ?_)
    have K13 : ∀ (y14 : Nat → Int32) (hf : fX11_feed_J106 mTaped f10 y14 = some out) (H : Heap) (locs : List Loc) (ls : Array Slot), va_P (xsD X) vwCl (wM X (0 : Int32) mWorld mImage mDraft mEarlier mRemembered mHasImage mIsLaid mOne mTwo mShare mX mY mD mEventX mEventY mEventD mEvents mCrossingOf mBundle mEventOf mDegree mFrom mTo mCrossings mEdges mMet mUpper mLower y14 mTaped mPoint mEnd mBegin mFaultAt f10 mTold mActs mFar mViews mHullX mHullY mEndX mEndY mHeightUp mHeightLow mMeets mMeetsOf Rw) H → va_D (xsF X) (wM X (0 : Int32) mWorld mImage mDraft mEarlier mRemembered mHasImage mIsLaid mOne mTwo mShare mX mY mD mEventX mEventY mEventD mEvents mCrossingOf mBundle mEventOf mDegree mFrom mTo mCrossings mEdges mMet mUpper mLower y14 mTaped mPoint mEnd mBegin mFaultAt f10 mTold mActs mFar mViews mHullX mHullY mEndX mEndY mHeightUp mHeightLow mMeets mMeetsOf Rw) → va_S (xsF X) s.heap H locs → lv_has ls 7 [(0, .ref (xsA X 100))] → W p l e { frames := 0, cells := 0, slots := 0, locals := 0 } s m ([.ref (xsA X 100), .int a0, .int a1, .int a2, .int a3, .int a4] : List Value).toArray below meth c H locs 0 0 (MQ below Qq ([.ref (xsA X 100), .int a0, .int a1, .int a2, .int a3, .int a4] : List Value).toArray s 0 0 (xsF X)) (F0 m 106 ls []) := by
      intro y14 hf H locs ls hP hD hS hl
      unfold fX11_feed_J106 at hf
      refine lv_aload_n hx hb dX11_feed_106 rfl (lv_at hl 0 rfl) ?_
      refine lv_dup hx hb dX11_feed_107 rfl ?_
      refine xg_X11_244 C hP dX11_feed_108 ?_
      refine lv_bipush (v := (20 : Int32)) hx hb dX11_feed_111 (by decide) ?_
      refine lv_iadd hx hb dX11_feed_113 ?_
      refine lv_topi (fun x15 ex15 => ?_)
      replace hf := xsLt_use ex15 hf
      refine xp_X11_244 C hP hD hS dX11_feed_114 (fun H locs hP hD hS => ?_)
      refine lv_aload_n hx hb dX11_feed_117 rfl (lv_at hl 0 rfl) ?_
      refine xg_X11_244 C hP dX11_feed_118 ?_
      have ho := Option.some.inj hf
      subst ho
      rw [hQq]
      exact xs_iret C hr hlk hP hD hS dX11_feed_121
    replace hf := xsBd_use hf
    obtain ⟨r13, hk130, hf⟩ := hf
    have L13 : ∀ (sg : Int32 × (Nat → Int32)) (rg : (Nat → Int32)), xsWh (fun s13 => fX11_feed_L60 mTaped f10 s13.1 s13.2) sg = some rg → (fX11_feed_J106 mTaped f10 rg = some out → ∀ (H : Heap) (locs : List Loc) (ls : Array Slot), va_P (xsD X) vwCl (wM X (0 : Int32) mWorld mImage mDraft mEarlier mRemembered mHasImage mIsLaid mOne mTwo mShare mX mY mD mEventX mEventY mEventD mEvents mCrossingOf mBundle mEventOf mDegree mFrom mTo mCrossings mEdges mMet mUpper mLower sg.2 mTaped mPoint mEnd mBegin mFaultAt f10 mTold mActs mFar mViews mHullX mHullY mEndX mEndY mHeightUp mHeightLow mMeets mMeetsOf Rw) H → va_D (xsF X) (wM X (0 : Int32) mWorld mImage mDraft mEarlier mRemembered mHasImage mIsLaid mOne mTwo mShare mX mY mD mEventX mEventY mEventD mEvents mCrossingOf mBundle mEventOf mDegree mFrom mTo mCrossings mEdges mMet mUpper mLower sg.2 mTaped mPoint mEnd mBegin mFaultAt f10 mTold mActs mFar mViews mHullX mHullY mEndX mEndY mHeightUp mHeightLow mMeets mMeetsOf Rw) → va_S (xsF X) s.heap H locs → lv_has ls 7 [(0, .ref (xsA X 100)), (6, .int sg.1)] → W p l e { frames := 0, cells := 0, slots := 0, locals := 0 } s m ([.ref (xsA X 100), .int a0, .int a1, .int a2, .int a3, .int a4] : List Value).toArray below meth c H locs 0 0 (MQ below Qq ([.ref (xsA X 100), .int a0, .int a1, .int a2, .int a3, .int a4] : List Value).toArray s 0 0 (xsF X)) (F0 m 60 ls [])) := by
      refine xsWh_ind ?_
      intro sg r13 u13 hf ih13 hx13 hk13 H locs ls hP hD hS hl
      obtain ⟨y11, y12⟩ := sg
      replace hf : fX11_feed_L60 mTaped f10 y11 y12 = some u13 := hf
      replace hl : lv_has ls 7 [(0, .ref (xsA X 100)), (6, .int y11)] := hl
      replace hP : va_P (xsD X) vwCl (wM X (0 : Int32) mWorld mImage mDraft mEarlier mRemembered mHasImage mIsLaid mOne mTwo mShare mX mY mD mEventX mEventY mEventD mEvents mCrossingOf mBundle mEventOf mDegree mFrom mTo mCrossings mEdges mMet mUpper mLower y12 mTaped mPoint mEnd mBegin mFaultAt f10 mTold mActs mFar mViews mHullX mHullY mEndX mEndY mHeightUp mHeightLow mMeets mMeetsOf Rw) H := hP
      replace hD : va_D (xsF X) (wM X (0 : Int32) mWorld mImage mDraft mEarlier mRemembered mHasImage mIsLaid mOne mTwo mShare mX mY mD mEventX mEventY mEventD mEvents mCrossingOf mBundle mEventOf mDegree mFrom mTo mCrossings mEdges mMet mUpper mLower y12 mTaped mPoint mEnd mBegin mFaultAt f10 mTold mActs mFar mViews mHullX mHullY mEndX mEndY mHeightUp mHeightLow mMeets mMeetsOf Rw) := hD
      unfold fX11_feed_L60 at hf
      refine lv_iload hx hb dX11_feed_60 (lv_at hl 1 rfl) ?_
      refine lv_bipush (v := (20 : Int32)) hx hb dX11_feed_62 (by decide) ?_
      refine lv_icmp_ge (tgt := 106) hx hb dX11_feed_64 (by decide) (fun c22 => ?_) (fun c22 => ?_)
      · replace hf := xsBr_t c22 hf
        have ez := hx13 _ (Option.some.inj hf).symm
        subst ez
        exact K13 y12 hk13 H locs ls hP hD hS (lv_sub hl [0] rfl)
      · replace hf := xsBr_f c22 hf
        refine lv_aload_n hx hb dX11_feed_67 rfl (lv_at hl 0 rfl) ?_
        refine xg_X11_72 C hP dX11_feed_68 ?_
        refine lv_aload_n hx hb dX11_feed_71 rfl (lv_at hl 0 rfl) ?_
        refine xg_X11_244 C hP dX11_feed_72 ?_
        refine lv_iload hx hb dX11_feed_75 (lv_at hl 1 rfl) ?_
        refine lv_iadd hx hb dX11_feed_77 ?_
        refine lv_aload_n hx hb dX11_feed_78 rfl (lv_at hl 0 rfl) ?_
        refine xg_X11_79 C hP dX11_feed_79 ?_
        refine lv_iload hx hb dX11_feed_82 (lv_at hl 1 rfl) ?_
        refine lv_iconst (v := (4 : Int32)) hx hb dX11_feed_84 (by decide) ?_
        replace hf := xsCk_use hf
        obtain ⟨h16, hf⟩ := hf
        refine lv_idiv hx hb dX11_feed_85 h16 ?_
        replace hf := xsCk_use hf
        obtain ⟨h17, hf⟩ := hf
        refine xl_mFive C hP h17 dX11_feed_86 ?_
        refine lv_bipush (v := (24 : Int32)) hx hb dX11_feed_87 (by decide) ?_
        refine lv_bipush (v := (8 : Int32)) hx hb dX11_feed_89 (by decide) ?_
        refine lv_iload hx hb dX11_feed_91 (lv_at hl 1 rfl) ?_
        refine lv_iconst (v := (4 : Int32)) hx hb dX11_feed_93 (by decide) ?_
        replace hf := xsCk_use hf
        obtain ⟨h18, hf⟩ := hf
        refine lv_irem hx hb dX11_feed_94 h18 ?_
        refine lv_imul hx hb dX11_feed_95 ?_
        refine lv_isub hx hb dX11_feed_96 ?_
        refine lv_ishr hx hb dX11_feed_97 ?_
        refine lv_i2b hx hb dX11_feed_98 rfl ?_
        replace hf := xsCk_use hf
        obtain ⟨h19, hf⟩ := hf
        refine xs_mTape C hP hD hS h19 dX11_feed_99 (fun f20 ef20 H locs hP hD hS => ?_)
        replace hf := xsLt_use ef20 hf
        obtain ⟨x21, ex21⟩ : ∃ y : Int32, y = y11 + (1 : Int32) := ⟨_, rfl⟩
        replace hf := xsLt_use ex21 hf
        refine lv_iinc (v := x21) (lv' := [(6, .int x21), (0, .ref (xsA X 100))]) hx hb dX11_feed_100 hl (k := 1) rfl (by rw [ex21]; rfl) (by decide) rfl (fun ls hl => ?_)
        refine lv_goto (tgt := 60) hx hb dX11_feed_103 (by decide) ?_
        exact ih13 _ (Option.some.inj hf).symm hk13 H locs ls hP hD hS (lv_sub hl [1, 0] rfl)
    exact L13 ((0 : Int32), mTape) r13 hk130 hf H locs ls hP hD hS (lv_sub hl [1, 0] rfl)
  · replace hf := xsBr_f c23 hf
    refine lv_iconst (v := (-1 : Int32)) hx hb dX11_feed_18 (by decide) ?_
    have ho := Option.some.inj hf
    subst ho
    rw [hQq]
    exact xs_iret C hr hlk hP hD hS dX11_feed_19
set_option maxRecDepth 100000 in
set_option maxHeartbeats 8000000 in
theorem mX11_end (l : Launch) {X : xsX} {mThrown mRemembered mHasImage mIsLaid mEvents mCrossings mEdges mTaped mPoint mEnd mBegin mFaultAt mActs : Int32} {mWorld mImage mDraft mEarlier mOne mTwo mShare mCrossingOf mBundle mEventOf mDegree mFrom mTo mMet mTape mFive mTold mFar mViews mHullX mHullY mEndX mEndY mMeets mMeetsOf : Nat → Int32} {mX mY mD mHeightUp mHeightLow : Int64} {mEventX mEventY mEventD mUpper mLower : Nat → Int64} {Rw : va_W} {a0 : Int32} {out : Int32 × Int32 × Int32} (hf : fX11_end mThrown mTaped a0 = some out) : Met l yX11_end (xsWs yX11_end cX11_end 2 (some .boolean)) { frames := 0, cells := 0, slots := 0, locals := 0 } (xsP X (wM X mThrown mWorld mImage mDraft mEarlier mRemembered mHasImage mIsLaid mOne mTwo mShare mX mY mD mEventX mEventY mEventD mEvents mCrossingOf mBundle mEventOf mDegree mFrom mTo mCrossings mEdges mMet mUpper mLower mTape mTaped mPoint mEnd mBegin mFaultAt mFive mTold mActs mFar mViews mHullX mHullY mEndX mEndY mHeightUp mHeightLow mMeets mMeetsOf Rw) [.ref (xsA X 100), .int a0]) (xsQi X out.1 (wM X out.2.1 mWorld mImage mDraft mEarlier mRemembered mHasImage mIsLaid mOne mTwo mShare mX mY mD mEventX mEventY mEventD mEvents mCrossingOf mBundle mEventOf mDegree mFrom mTo mCrossings mEdges mMet mUpper mLower mTape out.2.2 mPoint mEnd mBegin mFaultAt mFive mTold mActs mFar mViews mHullX mHullY mEndX mEndY mHeightUp mHeightLow mMeets mMeetsOf Rw)) 0 0 (xsF X) := by
  refine xs_meth RX11 (by decide) rfl (Nat.le_of_ble_eq_true rfl) ?_
  intro p e s m below meth c ls H locs C hP hD hS hr hlk hl
  have hx := C.1
  have hb := C.2.1
  have hl : lv_has ls 2 [(0, .ref (xsA X 100)), (1, .int a0)] := hl
  obtain ⟨Qq, hQq⟩ : ∃ Qq, Qq = xsQi X out.1 (wM X out.2.1 mWorld mImage mDraft mEarlier mRemembered mHasImage mIsLaid mOne mTwo mShare mX mY mD mEventX mEventY mEventD mEvents mCrossingOf mBundle mEventOf mDegree mFrom mTo mCrossings mEdges mMet mUpper mLower mTape out.2.2 mPoint mEnd mBegin mFaultAt mFive mTold mActs mFar mViews mHullX mHullY mEndX mEndY mHeightUp mHeightLow mMeets mMeetsOf Rw) := ⟨_, rfl⟩
  rw [← hQq]
  unfold fX11_end at hf
  refine lv_aload_n hx hb dX11_end_0 rfl (lv_at hl 0 rfl) ?_
  refine lv_iconst (v := (0 : Int32)) hx hb dX11_end_1 (by decide) ?_
  refine xp_X11_3 C hP hD hS dX11_end_2 (fun H locs hP hD hS => ?_)
  refine lv_iload_n hx hb dX11_end_5 rfl (lv_at hl 1 rfl) ?_
  refine lv_if_lt (tgt := 17) hx hb dX11_end_6 (by decide) (fun c2 => ?_) (fun c2 => ?_)
  · replace hf := xsBr_t c2 hf
    refine lv_iconst (v := (0 : Int32)) hx hb dX11_end_17 (by decide) ?_
    have ho := Option.some.inj hf
    subst ho
    rw [hQq]
    exact xs_zret C hr hlk xsB_0 hP hD hS dX11_end_18
  · replace hf := xsBr_f c2 hf
    refine lv_iload_n hx hb dX11_end_9 rfl (lv_at hl 1 rfl) ?_
    refine lv_aload_n hx hb dX11_end_10 rfl (lv_at hl 0 rfl) ?_
    refine xg_X11_244 C hP dX11_end_11 ?_
    refine lv_icmp_le (tgt := 19) hx hb dX11_end_14 (by decide) (fun c1 => ?_) (fun c1 => ?_)
    · replace hf := xsBr_t c1 hf
      refine lv_aload_n hx hb dX11_end_19 rfl (lv_at hl 0 rfl) ?_
      refine lv_iload_n hx hb dX11_end_20 rfl (lv_at hl 1 rfl) ?_
      refine xp_X11_244 C hP hD hS dX11_end_21 (fun H locs hP hD hS => ?_)
      refine lv_iconst (v := (1 : Int32)) hx hb dX11_end_24 (by decide) ?_
      have ho := Option.some.inj hf
      subst ho
      rw [hQq]
      exact xs_zret C hr hlk xsB_1 hP hD hS dX11_end_25
    · replace hf := xsBr_f c1 hf
      refine lv_iconst (v := (0 : Int32)) hx hb dX11_end_17 (by decide) ?_
      have ho := Option.some.inj hf
      subst ho
      rw [hQq]
      exact xs_zret C hr hlk xsB_0 hP hD hS dX11_end_18
