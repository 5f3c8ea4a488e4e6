set_option maxRecDepth 100000 in
set_option maxHeartbeats 8000000 in
theorem mX11_at (l : Launch) {X : xsX} {mThrown mRemembered mHasImage mIsLaid mEvents mCrossings mEdges mTaped mPoint mEnd mBegin mFaultAt mActs : Int32} {mWorld mImage mDraft mEarlier mOne mTwo mShare mCrossingOf mBundle mEventOf mDegree mFrom mTo mMet mTape mFive mTold mFar mViews mHullX mHullY mEndX mEndY mMeets mMeetsOf : Nat → Int32} {mX mY mD mHeightUp mHeightLow : Int64} {mEventX mEventY mEventD mUpper mLower : Nat → Int64} {Rw : va_W} {a0 : Int32} {a1 : Int32} {out : Int32 × Int32 × (Nat → Int32)} (hf : fX11_at mThrown mWorld mOne a0 a1 = some out) : Met l yX11_at (xsWs yX11_at cX11_at 3 (some .int)) { frames := 3, cells := 0, slots := 0, locals := 79 } (xsP X (wM X mThrown mWorld mImage mDraft mEarlier mRemembered mHasImage mIsLaid mOne mTwo mShare mX mY mD mEventX mEventY mEventD mEvents mCrossingOf mBundle mEventOf mDegree mFrom mTo mCrossings mEdges mMet mUpper mLower mTape mTaped mPoint mEnd mBegin mFaultAt mFive mTold mActs mFar mViews mHullX mHullY mEndX mEndY mHeightUp mHeightLow mMeets mMeetsOf Rw) [.ref (xsA X 100), .int a0, .int a1]) (xsQi X out.1 (wM X out.2.1 mWorld mImage mDraft mEarlier mRemembered mHasImage mIsLaid out.2.2 mTwo mShare mX mY mD mEventX mEventY mEventD mEvents mCrossingOf mBundle mEventOf mDegree mFrom mTo mCrossings mEdges mMet mUpper mLower mTape mTaped mPoint mEnd mBegin mFaultAt mFive mTold mActs mFar mViews mHullX mHullY mEndX mEndY mHeightUp mHeightLow mMeets mMeetsOf Rw)) 0 0 (xsF X) := by
  refine xs_meth RX11 (by decide) rfl (Nat.le_of_ble_eq_true rfl) ?_
  intro p e s m below meth c ls H locs C hP hD hS hr hlk hl
  have hx := C.1
  have hb := C.2.1
  have hl : lv_has ls 3 [(0, .ref (xsA X 100)), (1, .int a0), (2, .int a1)] := hl
  obtain ⟨Qq, hQq⟩ : ∃ Qq, Qq = xsQi X out.1 (wM X out.2.1 mWorld mImage mDraft mEarlier mRemembered mHasImage mIsLaid out.2.2 mTwo mShare mX mY mD mEventX mEventY mEventD mEvents mCrossingOf mBundle mEventOf mDegree mFrom mTo mCrossings mEdges mMet mUpper mLower mTape mTaped mPoint mEnd mBegin mFaultAt mFive mTold mActs mFar mViews mHullX mHullY mEndX mEndY mHeightUp mHeightLow mMeets mMeetsOf Rw) := ⟨_, rfl⟩
  rw [← hQq]
  unfold fX11_at at hf
  refine lv_aload_n hx hb dX11_at_0 rfl (lv_at hl 0 rfl) ?_
  refine lv_iconst (v := (0 : Int32)) hx hb dX11_at_1 (by decide) ?_
  refine xp_X11_3 C hP hD hS dX11_at_2 (fun H locs hP hD hS => ?_)
  refine lv_aload_n hx hb dX11_at_5 rfl (lv_at hl 0 rfl) ?_
  refine lv_iload_n hx hb dX11_at_6 rfl (lv_at hl 1 rfl) ?_
  refine lv_iload_n hx hb dX11_at_7 rfl (lv_at hl 2 rfl) ?_
  replace hf := xsBd_use hf
  obtain ⟨o1, h2, hf⟩ := hf
  refine xs_calli hS (xs_runV (As := [.int a0, .int a1]) C (mX11_noPlace l  h2) w_1892 w_1894 w_91 w_115 w_1895 hd_X11_noPlace ⟨rfl, rfl, Nat.le_of_ble_eq_true rfl, Nat.le_of_ble_eq_true rfl, Nat.zero_le _, Nat.zero_le _⟩ hP hD hS lk_X11 rfl hl.1 rfl (Nat.le_of_ble_eq_true rfl) dX11_at_8) (fun H locs hP hD hS => ?_)
  refine lv_if_eq (tgt := 18) hx hb dX11_at_11 (by decide) (fun c5 => ?_) (fun c5 => ?_)
  · replace hf := xsBr_t c5 hf
    refine lv_aload_n hx hb dX11_at_18 rfl (lv_at hl 0 rfl) ?_
    refine lv_iload_n hx hb dX11_at_19 rfl (lv_at hl 1 rfl) ?_
    refine lv_iload_n hx hb dX11_at_20 rfl (lv_at hl 2 rfl) ?_
    replace hf := xsBd_use hf
    obtain ⟨o3, h4, hf⟩ := hf
    refine xs_calli hS (xs_runV (As := [.int a0, .int a1]) C (mX11_whoHas l  h4) w_1896 w_1898 w_92 w_115 w_1899 hd_X11_whoHas ⟨rfl, rfl, Nat.le_of_ble_eq_true rfl, Nat.le_of_ble_eq_true rfl, Nat.zero_le _, Nat.zero_le _⟩ hP hD hS lk_X11 rfl hl.1 rfl (Nat.le_of_ble_eq_true rfl) dX11_at_21) (fun H locs hP hD hS => ?_)
    have ho := Option.some.inj hf
    subst ho
    rw [hQq]
    exact xs_iret C hr hlk hP hD hS dX11_at_24
  · replace hf := xsBr_f c5 hf
    refine lv_iconst (v := (0 : Int32)) hx hb dX11_at_14 (by decide) ?_
    refine lv_goto (tgt := 24) hx hb dX11_at_15 (by decide) ?_
    have ho := Option.some.inj hf
    subst ho
    rw [hQq]
    exact xs_iret C hr hlk hP hD hS dX11_at_24
set_option maxRecDepth 100000 in
set_option maxHeartbeats 8000000 in
theorem mX11_hasHeight (l : Launch) {X : xsX} {mThrown mRemembered mHasImage mIsLaid mEvents mCrossings mEdges mTaped mPoint mEnd mBegin mFaultAt mActs : Int32} {mWorld mImage mDraft mEarlier mOne mTwo mShare mCrossingOf mBundle mEventOf mDegree mFrom mTo mMet mTape mFive mTold mFar mViews mHullX mHullY mEndX mEndY mMeets mMeetsOf : Nat → Int32} {mX mY mD mHeightUp mHeightLow : Int64} {mEventX mEventY mEventD mUpper mLower : Nat → Int64} {Rw : va_W} {a0 : Int32} {a1 : Int32} {a2 : Int32} {out : Int32 × Int64 × Int64} (hf : fX11_hasHeight mWorld mHeightUp mHeightLow a0 a1 a2 = some out) : Met l yX11_hasHeight (xsWs yX11_hasHeight cX11_hasHeight 6 (some .boolean)) { frames := 1, cells := 0, slots := 0, locals := 25 } (xsP X (wM X mThrown mWorld mImage mDraft mEarlier mRemembered mHasImage mIsLaid mOne mTwo mShare mX mY mD mEventX mEventY mEventD mEvents mCrossingOf mBundle mEventOf mDegree mFrom mTo mCrossings mEdges mMet mUpper mLower mTape mTaped mPoint mEnd mBegin mFaultAt mFive mTold mActs mFar mViews mHullX mHullY mEndX mEndY mHeightUp mHeightLow mMeets mMeetsOf Rw) [.ref (xsA X 100), .int a0, .int a1, .int a2]) (xsQi X out.1 (wM X mThrown mWorld mImage mDraft mEarlier mRemembered mHasImage mIsLaid mOne mTwo mShare mX mY mD mEventX mEventY mEventD mEvents mCrossingOf mBundle mEventOf mDegree mFrom mTo mCrossings mEdges mMet mUpper mLower mTape mTaped mPoint mEnd mBegin mFaultAt mFive mTold mActs mFar mViews mHullX mHullY mEndX mEndY out.2.1 out.2.2 mMeets mMeetsOf Rw)) 0 0 (xsF X) := by
  refine xs_meth RX11 (by decide) rfl (Nat.le_of_ble_eq_true rfl) ?_
  intro p e s m below meth c ls H locs C hP hD hS hr hlk hl
  have hx := C.1
  have hb := C.2.1
  have hl : lv_has ls 6 [(0, .ref (xsA X 100)), (1, .int a0), (2, .int a1), (3, .int a2)] := hl
  obtain ⟨Qq, hQq⟩ : ∃ Qq, Qq = xsQi X out.1 (wM X mThrown mWorld mImage mDraft mEarlier mRemembered mHasImage mIsLaid mOne mTwo mShare mX mY mD mEventX mEventY mEventD mEvents mCrossingOf mBundle mEventOf mDegree mFrom mTo mCrossings mEdges mMet mUpper mLower mTape mTaped mPoint mEnd mBegin mFaultAt mFive mTold mActs mFar mViews mHullX mHullY mEndX mEndY out.2.1 out.2.2 mMeets mMeetsOf Rw) := ⟨_, rfl⟩
  rw [← hQq]
  unfold fX11_hasHeight at hf
  refine lv_iload_n hx hb dX11_hasHeight_0 rfl (lv_at hl 2 rfl) ?_
  refine lv_i2l hx hb dX11_hasHeight_1 rfl ?_
  refine lv_aload_n hx hb dX11_hasHeight_2 rfl (lv_at hl 0 rfl) ?_
  refine lv_iload_n hx hb dX11_hasHeight_3 rfl (lv_at hl 1 rfl) ?_
  refine lv_iconst (v := (0 : Int32)) hx hb dX11_hasHeight_4 (by decide) ?_
  replace hf := xsBd_use hf
  obtain ⟨o1, h2, hf⟩ := hf
  refine xs_calli hS (xs_runV (As := [.int a0, .int (0 : Int32)]) C (mX11_of l  h2) w_1608 w_1610 w_50 w_115 w_1611 hd_X11_of ⟨rfl, rfl, Nat.le_of_ble_eq_true rfl, Nat.le_of_ble_eq_true rfl, Nat.zero_le _, Nat.zero_le _⟩ hP hD hS lk_X11 rfl hl.1 rfl (Nat.le_of_ble_eq_true rfl) dX11_hasHeight_5) (fun H locs hP hD hS => ?_)
  refine lv_i2l hx hb dX11_hasHeight_8 rfl ?_
  refine lv_aload_n hx hb dX11_hasHeight_9 rfl (lv_at hl 0 rfl) ?_
  refine lv_iload_n hx hb dX11_hasHeight_10 rfl (lv_at hl 1 rfl) ?_
  refine lv_iconst (v := (2 : Int32)) hx hb dX11_hasHeight_11 (by decide) ?_
  replace hf := xsBd_use hf
  obtain ⟨o3, h4, hf⟩ := hf
  refine xs_calli hS (xs_runV (As := [.int a0, .int (2 : Int32)]) C (mX11_of l  h4) w_1608 w_1610 w_50 w_115 w_1611 hd_X11_of ⟨rfl, rfl, Nat.le_of_ble_eq_true rfl, Nat.le_of_ble_eq_true rfl, Nat.zero_le _, Nat.zero_le _⟩ hP hD hS lk_X11 rfl hl.1 rfl (Nat.le_of_ble_eq_true rfl) dX11_hasHeight_12) (fun H locs hP hD hS => ?_)
  refine lv_i2l hx hb dX11_hasHeight_15 rfl ?_
  replace hf := xsBd_use hf
  obtain ⟨o5, h6, hf⟩ := hf
  refine xs_calli hS (xs_runS (As := [.long a1.toInt64, .long o1.toInt64, .long o3.toInt64]) C (mX11_in l  h6) w_1573 w_1574 w_115 w_1575 hd_X11_in ⟨rfl, rfl, Nat.le_of_ble_eq_true rfl, Nat.le_of_ble_eq_true rfl, Nat.zero_le _, Nat.zero_le _⟩ hP hD hS hl.1 rfl (Nat.le_of_ble_eq_true rfl) dX11_hasHeight_16) (fun H locs hP hD hS => ?_)
  refine lv_if_ne (tgt := 24) hx hb dX11_hasHeight_19 (by decide) (fun c37 => ?_) (fun c37 => ?_)
  · replace hf := xsBr_f c37 hf
    refine lv_aload_n hx hb dX11_hasHeight_24 rfl (lv_at hl 0 rfl) ?_
    refine lv_iload_n hx hb dX11_hasHeight_25 rfl (lv_at hl 1 rfl) ?_
    refine lv_iconst (v := (2 : Int32)) hx hb dX11_hasHeight_26 (by decide) ?_
    replace hf := xsBd_use hf
    obtain ⟨o7, h8, hf⟩ := hf
    refine xs_calli hS (xs_runV (As := [.int a0, .int (2 : Int32)]) C (mX11_of l  h8) w_1608 w_1610 w_50 w_115 w_1611 hd_X11_of ⟨rfl, rfl, Nat.le_of_ble_eq_true rfl, Nat.le_of_ble_eq_true rfl, Nat.zero_le _, Nat.zero_le _⟩ hP hD hS lk_X11 rfl hl.1 rfl (Nat.le_of_ble_eq_true rfl) dX11_hasHeight_27) (fun H locs hP hD hS => ?_)
    refine lv_aload_n hx hb dX11_hasHeight_30 rfl (lv_at hl 0 rfl) ?_
    refine lv_iload_n hx hb dX11_hasHeight_31 rfl (lv_at hl 1 rfl) ?_
    refine lv_iconst (v := (0 : Int32)) hx hb dX11_hasHeight_32 (by decide) ?_
    replace hf := xsBd_use hf
    obtain ⟨o9, h10, hf⟩ := hf
    refine xs_calli hS (xs_runV (As := [.int a0, .int (0 : Int32)]) C (mX11_of l  h10) w_1608 w_1610 w_50 w_115 w_1611 hd_X11_of ⟨rfl, rfl, Nat.le_of_ble_eq_true rfl, Nat.le_of_ble_eq_true rfl, Nat.zero_le _, Nat.zero_le _⟩ hP hD hS lk_X11 rfl hl.1 rfl (Nat.le_of_ble_eq_true rfl) dX11_hasHeight_33) (fun H locs hP hD hS => ?_)
    refine lv_isub hx hb dX11_hasHeight_36 ?_
    refine lv_i2l hx hb dX11_hasHeight_37 rfl ?_
    refine lv_topl (fun x11 ex11 => ?_)
    replace hf := xsLt_use ex11 hf
    refine lv_lstore (lv' := [(4, .long x11), (0, .ref (xsA X 100)), (1, .int a0), (2, .int a1), (3, .int a2)]) hx hb dX11_hasHeight_38 hl (by decide) rfl (fun ls hl => ?_)
    refine lv_aload_n hx hb dX11_hasHeight_40 rfl (lv_at hl 1 rfl) ?_
    refine lv_lload hx hb dX11_hasHeight_41 (lv_at hl 0 rfl) ?_
    refine lv_lconst (v := (0 : Int64)) hx hb dX11_hasHeight_43 (by decide) ?_
    have K35 : ∀ (y12 : Int64) (hf : fX11_hasHeight_J54 mWorld a0 a1 a2 x11 y12 = some out) (H : Heap) (locs : List Loc) (ls : Array Slot), va_P (xsD X) vwCl (wM X mThrown mWorld mImage mDraft mEarlier mRemembered mHasImage mIsLaid mOne mTwo mShare mX mY mD mEventX mEventY mEventD mEvents mCrossingOf mBundle mEventOf mDegree mFrom mTo mCrossings mEdges mMet mUpper mLower mTape mTaped mPoint mEnd mBegin mFaultAt mFive mTold mActs mFar mViews mHullX mHullY mEndX mEndY mHeightUp mHeightLow mMeets mMeetsOf Rw) H → va_D (xsF X) (wM X mThrown mWorld mImage mDraft mEarlier mRemembered mHasImage mIsLaid mOne mTwo mShare mX mY mD mEventX mEventY mEventD mEvents mCrossingOf mBundle mEventOf mDegree mFrom mTo mCrossings mEdges mMet mUpper mLower mTape mTaped mPoint mEnd mBegin mFaultAt mFive mTold mActs mFar mViews mHullX mHullY mEndX mEndY mHeightUp mHeightLow mMeets mMeetsOf Rw) → va_S (xsF X) s.heap H locs → lv_has ls 6 [(0, .ref (xsA X 100)), (1, .int a0), (2, .int a1), (3, .int a2), (4, .long x11)] → W p l e { frames := 1, cells := 0, slots := 0, locals := 25 } s m ([.ref (xsA X 100), .int a0, .int a1, .int a2] : List Value).toArray below meth c H locs 0 0 (MQ below Qq ([.ref (xsA X 100), .int a0, .int a1, .int a2] : List Value).toArray s 0 0 (xsF X)) (F0 m 54 ls [.long y12, .ref (xsA X 100)]) := by
      intro y12 hf H locs ls hP hD hS hl
      unfold fX11_hasHeight_J54 at hf
      refine xp_X11_442 C hP hD hS dX11_hasHeight_54 (fun H locs hP hD hS => ?_)
      refine lv_aload_n hx hb dX11_hasHeight_57 rfl (lv_at hl 0 rfl) ?_
      refine lv_lload hx hb dX11_hasHeight_58 (lv_at hl 4 rfl) ?_
      refine lv_lconst (v := (0 : Int64)) hx hb dX11_hasHeight_60 (by decide) ?_
      have K16 : ∀ (y13 : Int64) (hf : fX11_hasHeight_J118 y12 y13 = some out) (H : Heap) (locs : List Loc) (ls : Array Slot), va_P (xsD X) vwCl (wM X mThrown mWorld mImage mDraft mEarlier mRemembered mHasImage mIsLaid mOne mTwo mShare mX mY mD mEventX mEventY mEventD mEvents mCrossingOf mBundle mEventOf mDegree mFrom mTo mCrossings mEdges mMet mUpper mLower mTape mTaped mPoint mEnd mBegin mFaultAt mFive mTold mActs mFar mViews mHullX mHullY mEndX mEndY mHeightUp y12 mMeets mMeetsOf Rw) H → va_D (xsF X) (wM X mThrown mWorld mImage mDraft mEarlier mRemembered mHasImage mIsLaid mOne mTwo mShare mX mY mD mEventX mEventY mEventD mEvents mCrossingOf mBundle mEventOf mDegree mFrom mTo mCrossings mEdges mMet mUpper mLower mTape mTaped mPoint mEnd mBegin mFaultAt mFive mTold mActs mFar mViews mHullX mHullY mEndX mEndY mHeightUp y12 mMeets mMeetsOf Rw) → va_S (xsF X) s.heap H locs → lv_has ls 6 [] → W p l e { frames := 1, cells := 0, slots := 0, locals := 25 } s m ([.ref (xsA X 100), .int a0, .int a1, .int a2] : List Value).toArray below meth c H locs 0 0 (MQ below Qq ([.ref (xsA X 100), .int a0, .int a1, .int a2] : List Value).toArray s 0 0 (xsF X)) (F0 m 118 ls [.long y13, .ref (xsA X 100)]) := by
        intro y13 hf H locs ls hP hD hS hl
        unfold fX11_hasHeight_J118 at hf
        refine xp_X11_445 C hP hD hS dX11_hasHeight_118 (fun H locs hP hD hS => ?_)
        refine lv_iconst (v := (1 : Int32)) hx hb dX11_hasHeight_121 (by decide) ?_
        have ho := Option.some.inj hf
        subst ho
        rw [hQq]
        exact xs_zret C hr hlk xsB_1 hP hD hS dX11_hasHeight_122
      replace hf := xsBd_use hf
      obtain ⟨v14, hf, hk15⟩ := hf
      refine xs_lcmp_ne (tgt := 83) C dX11_hasHeight_61 dX11_hasHeight_62 (by decide) (fun c32 => ?_) (fun c32 => ?_)
      · replace hf := xsBr_f c32 hf
        refine lv_aload_n hx hb dX11_hasHeight_83 rfl (lv_at hl 0 rfl) ?_
        refine lv_iload_n hx hb dX11_hasHeight_84 rfl (lv_at hl 1 rfl) ?_
        refine lv_iconst (v := (1 : Int32)) hx hb dX11_hasHeight_85 (by decide) ?_
        replace hf := xsBd_use hf
        obtain ⟨o17, h18, hf⟩ := hf
        refine xs_calli hS (xs_runV (As := [.int a0, .int (1 : Int32)]) C (mX11_of l  h18) w_1608 w_1610 w_50 w_115 w_1611 hd_X11_of ⟨rfl, rfl, Nat.le_of_ble_eq_true rfl, Nat.le_of_ble_eq_true rfl, Nat.zero_le _, Nat.zero_le _⟩ hP hD hS lk_X11 rfl hl.1 rfl (Nat.le_of_ble_eq_true rfl) dX11_hasHeight_86) (fun H locs hP hD hS => ?_)
        refine lv_i2l hx hb dX11_hasHeight_89 rfl ?_
        refine lv_lload hx hb dX11_hasHeight_90 (lv_at hl 4 rfl) ?_
        refine lv_lmul hx hb dX11_hasHeight_92 ?_
        refine lv_aload_n hx hb dX11_hasHeight_93 rfl (lv_at hl 0 rfl) ?_
        refine lv_iload_n hx hb dX11_hasHeight_94 rfl (lv_at hl 1 rfl) ?_
        refine lv_iconst (v := (3 : Int32)) hx hb dX11_hasHeight_95 (by decide) ?_
        replace hf := xsBd_use hf
        obtain ⟨o19, h20, hf⟩ := hf
        refine xs_calli hS (xs_runV (As := [.int a0, .int (3 : Int32)]) C (mX11_of l  h20) w_1608 w_1610 w_50 w_115 w_1611 hd_X11_of ⟨rfl, rfl, Nat.le_of_ble_eq_true rfl, Nat.le_of_ble_eq_true rfl, Nat.zero_le _, Nat.zero_le _⟩ hP hD hS lk_X11 rfl hl.1 rfl (Nat.le_of_ble_eq_true rfl) dX11_hasHeight_96) (fun H locs hP hD hS => ?_)
        refine lv_aload_n hx hb dX11_hasHeight_99 rfl (lv_at hl 0 rfl) ?_
        refine lv_iload_n hx hb dX11_hasHeight_100 rfl (lv_at hl 1 rfl) ?_
        refine lv_iconst (v := (1 : Int32)) hx hb dX11_hasHeight_101 (by decide) ?_
        replace hf := xsBd_use hf
        obtain ⟨o21, h22, hf⟩ := hf
        refine xs_calli hS (xs_runV (As := [.int a0, .int (1 : Int32)]) C (mX11_of l  h22) w_1608 w_1610 w_50 w_115 w_1611 hd_X11_of ⟨rfl, rfl, Nat.le_of_ble_eq_true rfl, Nat.le_of_ble_eq_true rfl, Nat.zero_le _, Nat.zero_le _⟩ hP hD hS lk_X11 rfl hl.1 rfl (Nat.le_of_ble_eq_true rfl) dX11_hasHeight_102) (fun H locs hP hD hS => ?_)
        refine lv_isub hx hb dX11_hasHeight_105 ?_
        refine lv_i2l hx hb dX11_hasHeight_106 rfl ?_
        refine lv_iload_n hx hb dX11_hasHeight_107 rfl (lv_at hl 2 rfl) ?_
        refine lv_aload_n hx hb dX11_hasHeight_108 rfl (lv_at hl 0 rfl) ?_
        refine lv_iload_n hx hb dX11_hasHeight_109 rfl (lv_at hl 1 rfl) ?_
        refine lv_iconst (v := (0 : Int32)) hx hb dX11_hasHeight_110 (by decide) ?_
        replace hf := xsBd_use hf
        obtain ⟨o23, h24, hf⟩ := hf
        refine xs_calli hS (xs_runV (As := [.int a0, .int (0 : Int32)]) C (mX11_of l  h24) w_1608 w_1610 w_50 w_115 w_1611 hd_X11_of ⟨rfl, rfl, Nat.le_of_ble_eq_true rfl, Nat.le_of_ble_eq_true rfl, Nat.zero_le _, Nat.zero_le _⟩ hP hD hS lk_X11 rfl hl.1 rfl (Nat.le_of_ble_eq_true rfl) dX11_hasHeight_111) (fun H locs hP hD hS => ?_)
        refine lv_isub hx hb dX11_hasHeight_114 ?_
        refine lv_i2l hx hb dX11_hasHeight_115 rfl ?_
        refine lv_lmul hx hb dX11_hasHeight_116 ?_
        refine lv_ladd hx hb dX11_hasHeight_117 ?_
        have ev := Option.some.inj hf
        subst ev
        exact K16 ((o17.toInt64 * x11) + (((o19 - o21).toInt64) * ((a1 - o23).toInt64))) hk15 H locs ls hP hD hS (lv_sub hl [] rfl)
      · replace hf := xsBr_t c32 hf
        refine lv_aload_n hx hb dX11_hasHeight_65 rfl (lv_at hl 0 rfl) ?_
        refine lv_iload_n hx hb dX11_hasHeight_66 rfl (lv_at hl 1 rfl) ?_
        refine lv_iload_n hx hb dX11_hasHeight_67 rfl (lv_at hl 3 rfl) ?_
        have K30 : ∀ (y25 : Int32) (hf : fX11_hasHeight_J76 mWorld a0 y25 = some v14) (H : Heap) (locs : List Loc) (ls : Array Slot), va_P (xsD X) vwCl (wM X mThrown mWorld mImage mDraft mEarlier mRemembered mHasImage mIsLaid mOne mTwo mShare mX mY mD mEventX mEventY mEventD mEvents mCrossingOf mBundle mEventOf mDegree mFrom mTo mCrossings mEdges mMet mUpper mLower mTape mTaped mPoint mEnd mBegin mFaultAt mFive mTold mActs mFar mViews mHullX mHullY mEndX mEndY mHeightUp y12 mMeets mMeetsOf Rw) H → va_D (xsF X) (wM X mThrown mWorld mImage mDraft mEarlier mRemembered mHasImage mIsLaid mOne mTwo mShare mX mY mD mEventX mEventY mEventD mEvents mCrossingOf mBundle mEventOf mDegree mFrom mTo mCrossings mEdges mMet mUpper mLower mTape mTaped mPoint mEnd mBegin mFaultAt mFive mTold mActs mFar mViews mHullX mHullY mEndX mEndY mHeightUp y12 mMeets mMeetsOf Rw) → va_S (xsF X) s.heap H locs → lv_has ls 6 [] → W p l e { frames := 1, cells := 0, slots := 0, locals := 25 } s m ([.ref (xsA X 100), .int a0, .int a1, .int a2] : List Value).toArray below meth c H locs 0 0 (MQ below Qq ([.ref (xsA X 100), .int a0, .int a1, .int a2] : List Value).toArray s 0 0 (xsF X)) (F0 m 76 ls [.int y25, .int a0, .ref (xsA X 100), .ref (xsA X 100)]) := by
          intro y25 hf H locs ls hP hD hS hl
          unfold fX11_hasHeight_J76 at hf
          replace hf := xsBd_use hf
          obtain ⟨o26, h27, hf⟩ := hf
          refine xs_calli hS (xs_runV (As := [.int a0, .int y25]) C (mX11_of l  h27) w_1608 w_1610 w_50 w_115 w_1611 hd_X11_of ⟨rfl, rfl, Nat.le_of_ble_eq_true rfl, Nat.le_of_ble_eq_true rfl, Nat.zero_le _, Nat.zero_le _⟩ hP hD hS lk_X11 rfl hl.1 rfl (Nat.le_of_ble_eq_true rfl) dX11_hasHeight_76) (fun H locs hP hD hS => ?_)
          refine lv_i2l hx hb dX11_hasHeight_79 rfl ?_
          refine lv_goto (tgt := 118) hx hb dX11_hasHeight_80 (by decide) ?_
          have ev := Option.some.inj hf
          subst ev
          exact K16 o26.toInt64 hk15 H locs ls hP hD hS (lv_sub hl [] rfl)
        replace hf := xsBd_use hf
        obtain ⟨v28, hf, hk29⟩ := hf
        refine lv_if_eq (tgt := 75) hx hb dX11_hasHeight_68 (by decide) (fun c31 => ?_) (fun c31 => ?_)
        · replace hf := xsBr_t c31 hf
          refine lv_iconst (v := (3 : Int32)) hx hb dX11_hasHeight_75 (by decide) ?_
          have ev := Option.some.inj hf
          subst ev
          exact K30 (3 : Int32) hk29 H locs ls hP hD hS (lv_sub hl [] rfl)
        · replace hf := xsBr_f c31 hf
          refine lv_iconst (v := (1 : Int32)) hx hb dX11_hasHeight_71 (by decide) ?_
          refine lv_goto (tgt := 76) hx hb dX11_hasHeight_72 (by decide) ?_
          have ev := Option.some.inj hf
          subst ev
          exact K30 (1 : Int32) hk29 H locs ls hP hD hS (lv_sub hl [] rfl)
    replace hf := xsBd_use hf
    obtain ⟨v33, hf, hk34⟩ := hf
    refine xs_lcmp_ne (tgt := 52) C dX11_hasHeight_44 dX11_hasHeight_45 (by decide) (fun c36 => ?_) (fun c36 => ?_)
    · replace hf := xsBr_f c36 hf
      refine lv_lload hx hb dX11_hasHeight_52 (lv_at hl 0 rfl) ?_
      have ev := Option.some.inj hf
      subst ev
      exact K35 x11 hk34 H locs ls hP hD hS (lv_sub hl [1, 2, 3, 4, 0] rfl)
    · replace hf := xsBr_t c36 hf
      refine lv_lconst (v := (1 : Int64)) hx hb dX11_hasHeight_48 (by decide) ?_
      refine lv_goto (tgt := 54) hx hb dX11_hasHeight_49 (by decide) ?_
      have ev := Option.some.inj hf
      subst ev
      exact K35 (1 : Int64) hk34 H locs ls hP hD hS (lv_sub hl [1, 2, 3, 4, 0] rfl)
  · replace hf := xsBr_t c37 hf
    refine lv_iconst (v := (0 : Int32)) hx hb dX11_hasHeight_22 (by decide) ?_
    have ho := Option.some.inj hf
    subst ho
    rw [hQq]
    exact xs_zret C hr hlk xsB_0 hP hD hS dX11_hasHeight_23
set_option maxRecDepth 100000 in
set_option maxHeartbeats 8000000 in
theorem mX11_next (l : Launch) {X : xsX} {mThrown mRemembered mHasImage mIsLaid mEvents mCrossings mEdges mTaped mPoint mEnd mBegin mFaultAt mActs : Int32} {mWorld mImage mDraft mEarlier mOne mTwo mShare mCrossingOf mBundle mEventOf mDegree mFrom mTo mMet mTape mFive mTold mFar mViews mHullX mHullY mEndX mEndY mMeets mMeetsOf : Nat → Int32} {mX mY mD mHeightUp mHeightLow : Int64} {mEventX mEventY mEventD mUpper mLower : Nat → Int64} {Rw : va_W} {a0 : Int32} {a1 : Int32} {a2 : Int32} {out : Int32 × Int32 × (Nat → Int32) × Int64 × Int64} (hf : fX11_next mThrown mWorld mOne mHeightUp mHeightLow a0 a1 a2 = some out) : Met l yX11_next (xsWs yX11_next cX11_next 13 (some .int)) { frames := 3, cells := 0, slots := 0, locals := 79 } (xsP X (wM X mThrown mWorld mImage mDraft mEarlier mRemembered mHasImage mIsLaid mOne mTwo mShare mX mY mD mEventX mEventY mEventD mEvents mCrossingOf mBundle mEventOf mDegree mFrom mTo mCrossings mEdges mMet mUpper mLower mTape mTaped mPoint mEnd mBegin mFaultAt mFive mTold mActs mFar mViews mHullX mHullY mEndX mEndY mHeightUp mHeightLow mMeets mMeetsOf Rw) [.ref (xsA X 100), .int a0, .int a1, .int a2]) (xsQi X out.1 (wM X out.2.1 mWorld mImage mDraft mEarlier mRemembered mHasImage mIsLaid out.2.2.1 mTwo mShare mX mY mD mEventX mEventY mEventD mEvents mCrossingOf mBundle mEventOf mDegree mFrom mTo mCrossings mEdges mMet mUpper mLower mTape mTaped mPoint mEnd mBegin mFaultAt mFive mTold mActs mFar mViews mHullX mHullY mEndX mEndY out.2.2.2.1 out.2.2.2.2 mMeets mMeetsOf Rw)) 0 0 (xsF X) := by
  refine xs_meth RX11 (by decide) rfl (Nat.le_of_ble_eq_true rfl) ?_
  intro p e s m below meth c ls H locs C hP hD hS hr hlk hl
  have hx := C.1
  have hb := C.2.1
  have hl : lv_has ls 13 [(0, .ref (xsA X 100)), (1, .int a0), (2, .int a1), (3, .int a2)] := hl
  obtain ⟨Qq, hQq⟩ : ∃ Qq, Qq = xsQi X out.1 (wM X out.2.1 mWorld mImage mDraft mEarlier mRemembered mHasImage mIsLaid out.2.2.1 mTwo mShare mX mY mD mEventX mEventY mEventD mEvents mCrossingOf mBundle mEventOf mDegree mFrom mTo mCrossings mEdges mMet mUpper mLower mTape mTaped mPoint mEnd mBegin mFaultAt mFive mTold mActs mFar mViews mHullX mHullY mEndX mEndY out.2.2.2.1 out.2.2.2.2 mMeets mMeetsOf Rw) := ⟨_, rfl⟩
  rw [← hQq]
  unfold fX11_next at hf
  refine lv_aload_n hx hb dX11_next_0 rfl (lv_at hl 0 rfl) ?_
  refine lv_iconst (v := (0 : Int32)) hx hb dX11_next_1 (by decide) ?_
  refine xp_X11_3 C hP hD hS dX11_next_2 (fun H locs hP hD hS => ?_)
  refine lv_aload_n hx hb dX11_next_5 rfl (lv_at hl 0 rfl) ?_
  refine lv_iload_n hx hb dX11_next_6 rfl (lv_at hl 1 rfl) ?_
  refine lv_iload_n hx hb dX11_next_7 rfl (lv_at hl 2 rfl) ?_
  replace hf := xsBd_use hf
  obtain ⟨o1, h2, hf⟩ := hf
  refine xs_calli hS (xs_runV (As := [.int a0, .int a1]) C (mX11_noPlace l  h2) w_1892 w_1894 w_91 w_115 w_1895 hd_X11_noPlace ⟨rfl, rfl, Nat.le_of_ble_eq_true rfl, Nat.le_of_ble_eq_true rfl, Nat.zero_le _, Nat.zero_le _⟩ hP hD hS lk_X11 rfl hl.1 rfl (Nat.le_of_ble_eq_true rfl) dX11_next_8) (fun H locs hP hD hS => ?_)
  refine lv_if_eq (tgt := 16) hx hb dX11_next_11 (by decide) (fun c42 => ?_) (fun c42 => ?_)
  · replace hf := xsBr_t c42 hf
    refine lv_aload_n hx hb dX11_next_16 rfl (lv_at hl 0 rfl) ?_
    refine lv_iload_n hx hb dX11_next_17 rfl (lv_at hl 1 rfl) ?_
    refine lv_iload_n hx hb dX11_next_18 rfl (lv_at hl 2 rfl) ?_
    replace hf := xsBd_use hf
    obtain ⟨o3, h4, hf⟩ := hf
    refine xs_calli hS (xs_runV (As := [.int a0, .int a1]) C (mX11_whoHas l  h4) w_1896 w_1898 w_92 w_115 w_1899 hd_X11_whoHas ⟨rfl, rfl, Nat.le_of_ble_eq_true rfl, Nat.le_of_ble_eq_true rfl, Nat.zero_le _, Nat.zero_le _⟩ hP hD hS lk_X11 rfl hl.1 rfl (Nat.le_of_ble_eq_true rfl) dX11_next_19) (fun H locs hP hD hS => ?_)
    refine lv_istore (lv' := [(4, .int o3.1), (0, .ref (xsA X 100)), (1, .int a0), (2, .int a1), (3, .int a2)]) hx hb dX11_next_22 hl (by decide) rfl (fun ls hl => ?_)
    refine lv_iconst (v := (-1 : Int32)) hx hb dX11_next_24 (by decide) ?_
    refine lv_istore (lv' := [(5, .int (-1 : Int32)), (4, .int o3.1), (0, .ref (xsA X 100)), (1, .int a0), (2, .int a1), (3, .int a2)]) hx hb dX11_next_25 hl (by decide) rfl (fun ls hl => ?_)
    refine lv_lconst (v := (0 : Int64)) hx hb dX11_next_27 (by decide) ?_
    refine lv_lstore (lv' := [(6, .long (0 : Int64)), (5, .int (-1 : Int32)), (4, .int o3.1), (0, .ref (xsA X 100)), (1, .int a0), (2, .int a1), (3, .int a2)]) hx hb dX11_next_28 hl (by decide) rfl (fun ls hl => ?_)
    refine lv_lconst (v := (1 : Int64)) hx hb dX11_next_30 (by decide) ?_
    refine lv_lstore (lv' := [(8, .long (1 : Int64)), (6, .long (0 : Int64)), (5, .int (-1 : Int32)), (4, .int o3.1), (0, .ref (xsA X 100)), (1, .int a0), (2, .int a1), (3, .int a2)]) hx hb dX11_next_31 hl (by decide) rfl (fun ls hl => ?_)
    refine lv_iconst (v := (0 : Int32)) hx hb dX11_next_33 (by decide) ?_
    refine lv_istore (lv' := [(10, .int (0 : Int32)), (8, .long (1 : Int64)), (6, .long (0 : Int64)), (5, .int (-1 : Int32)), (4, .int o3.1), (0, .ref (xsA X 100)), (1, .int a0), (2, .int a1), (3, .int a2)]) hx hb dX11_next_34 hl (by decide) rfl (fun ls hl => ?_)
    have K11 : ∀ (y12 : Int32) (y13 : Int64) (y14 : Int64) (hf : fX11_next_J154 o1 o3 y12 y13 y14 = some out) (H : Heap) (locs : List Loc) (ls : Array Slot), va_P (xsD X) vwCl (wM X o1.2 mWorld mImage mDraft mEarlier mRemembered mHasImage mIsLaid o3.2 mTwo mShare mX mY mD mEventX mEventY mEventD mEvents mCrossingOf mBundle mEventOf mDegree mFrom mTo mCrossings mEdges mMet mUpper mLower mTape mTaped mPoint mEnd mBegin mFaultAt mFive mTold mActs mFar mViews mHullX mHullY mEndX mEndY y13 y14 mMeets mMeetsOf Rw) H → va_D (xsF X) (wM X o1.2 mWorld mImage mDraft mEarlier mRemembered mHasImage mIsLaid o3.2 mTwo mShare mX mY mD mEventX mEventY mEventD mEvents mCrossingOf mBundle mEventOf mDegree mFrom mTo mCrossings mEdges mMet mUpper mLower mTape mTaped mPoint mEnd mBegin mFaultAt mFive mTold mActs mFar mViews mHullX mHullY mEndX mEndY y13 y14 mMeets mMeetsOf Rw) → va_S (xsF X) s.heap H locs → lv_has ls 13 [(5, .int y12)] → W p l e { frames := 3, cells := 0, slots := 0, locals := 79 } s m ([.ref (xsA X 100), .int a0, .int a1, .int a2] : List Value).toArray below meth c H locs 0 0 (MQ below Qq ([.ref (xsA X 100), .int a0, .int a1, .int a2] : List Value).toArray s 0 0 (xsF X)) (F0 m 154 ls []) := by
      intro y12 y13 y14 hf H locs ls hP hD hS hl
      unfold fX11_next_J154 at hf
      refine lv_iload hx hb dX11_next_154 (lv_at hl 0 rfl) ?_
      have ho := Option.some.inj hf
      subst ho
      rw [hQq]
      exact xs_iret C hr hlk hP hD hS dX11_next_156
    replace hf := xsBd_use hf
    obtain ⟨r11, hk110, hf⟩ := hf
    have L11 : ∀ (sg : Int32 × Int64 × Int64 × Int32 × Int64 × Int64) (rg : Int32 × Int64 × Int64), xsWh (fun s11 => fX11_next_L36 mWorld a0 a1 a2 o3 s11.1 s11.2.1 s11.2.2.1 s11.2.2.2.1 s11.2.2.2.2.1 s11.2.2.2.2.2) sg = some rg → (fX11_next_J154 o1 o3 rg.1 rg.2.1 rg.2.2 = some out → ∀ (H : Heap) (locs : List Loc) (ls : Array Slot), va_P (xsD X) vwCl (wM X o1.2 mWorld mImage mDraft mEarlier mRemembered mHasImage mIsLaid o3.2 mTwo mShare mX mY mD mEventX mEventY mEventD mEvents mCrossingOf mBundle mEventOf mDegree mFrom mTo mCrossings mEdges mMet mUpper mLower mTape mTaped mPoint mEnd mBegin mFaultAt mFive mTold mActs mFar mViews mHullX mHullY mEndX mEndY sg.2.2.2.2.1 sg.2.2.2.2.2 mMeets mMeetsOf Rw) H → va_D (xsF X) (wM X o1.2 mWorld mImage mDraft mEarlier mRemembered mHasImage mIsLaid o3.2 mTwo mShare mX mY mD mEventX mEventY mEventD mEvents mCrossingOf mBundle mEventOf mDegree mFrom mTo mCrossings mEdges mMet mUpper mLower mTape mTaped mPoint mEnd mBegin mFaultAt mFive mTold mActs mFar mViews mHullX mHullY mEndX mEndY sg.2.2.2.2.1 sg.2.2.2.2.2 mMeets mMeetsOf Rw) → va_S (xsF X) s.heap H locs → lv_has ls 13 [(0, .ref (xsA X 100)), (1, .int a0), (2, .int a1), (3, .int a2), (4, .int o3.1), (5, .int sg.1), (6, .long sg.2.1), (8, .long sg.2.2.1), (10, .int sg.2.2.2.1)] → W p l e { frames := 3, cells := 0, slots := 0, locals := 79 } s m ([.ref (xsA X 100), .int a0, .int a1, .int a2] : List Value).toArray below meth c H locs 0 0 (MQ below Qq ([.ref (xsA X 100), .int a0, .int a1, .int a2] : List Value).toArray s 0 0 (xsF X)) (F0 m 36 ls [])) := by
      refine xsWh_ind ?_
      intro sg r11 u11 hf ih11 hx11 hk11 H locs ls hP hD hS hl
      obtain ⟨y5, y6, y7, y8, y9, y10⟩ := sg
      replace hf : fX11_next_L36 mWorld a0 a1 a2 o3 y5 y6 y7 y8 y9 y10 = some u11 := hf
      replace hl : lv_has ls 13 [(0, .ref (xsA X 100)), (1, .int a0), (2, .int a1), (3, .int a2), (4, .int o3.1), (5, .int y5), (6, .long y6), (8, .long y7), (10, .int y8)] := hl
      replace hP : va_P (xsD X) vwCl (wM X o1.2 mWorld mImage mDraft mEarlier mRemembered mHasImage mIsLaid o3.2 mTwo mShare mX mY mD mEventX mEventY mEventD mEvents mCrossingOf mBundle mEventOf mDegree mFrom mTo mCrossings mEdges mMet mUpper mLower mTape mTaped mPoint mEnd mBegin mFaultAt mFive mTold mActs mFar mViews mHullX mHullY mEndX mEndY y9 y10 mMeets mMeetsOf Rw) H := hP
      replace hD : va_D (xsF X) (wM X o1.2 mWorld mImage mDraft mEarlier mRemembered mHasImage mIsLaid o3.2 mTwo mShare mX mY mD mEventX mEventY mEventD mEvents mCrossingOf mBundle mEventOf mDegree mFrom mTo mCrossings mEdges mMet mUpper mLower mTape mTaped mPoint mEnd mBegin mFaultAt mFive mTold mActs mFar mViews mHullX mHullY mEndX mEndY y9 y10 mMeets mMeetsOf Rw) := hD
      unfold fX11_next_L36 at hf
      refine lv_iload hx hb dX11_next_36 (lv_at hl 8 rfl) ?_
      refine lv_aload_n hx hb dX11_next_38 rfl (lv_at hl 0 rfl) ?_
      replace hf := xsBd_use hf
      obtain ⟨o15, h16, hf⟩ := hf
      refine xs_calli hS (xs_runV (As := []) C (mX11_many l  h16) w_1581 w_1583 w_44 w_115 w_1584 hd_X11_many ⟨rfl, rfl, Nat.le_of_ble_eq_true rfl, Nat.le_of_ble_eq_true rfl, Nat.zero_le _, Nat.zero_le _⟩ hP hD hS lk_X11 rfl hl.1 rfl (Nat.le_of_ble_eq_true rfl) dX11_next_39) (fun H locs hP hD hS => ?_)
      refine lv_icmp_ge (tgt := 154) hx hb dX11_next_42 (by decide) (fun c41 => ?_) (fun c41 => ?_)
      · replace hf := xsBr_t c41 hf
        have ez := hx11 _ (Option.some.inj hf).symm
        subst ez
        exact K11 y5 y9 y10 hk11 H locs ls hP hD hS (lv_sub hl [5] rfl)
      · replace hf := xsBr_f c41 hf
        refine lv_iload hx hb dX11_next_45 (lv_at hl 4 rfl) ?_
        refine lv_iload hx hb dX11_next_47 (lv_at hl 8 rfl) ?_
        replace hf := xsBd_use hf
        obtain ⟨o17, h18, hf⟩ := hf
        refine xs_calli hS (xs_runS (As := [.int o3.1, .int y8]) C (mX11_holds l  h18) w_1700 w_1701 w_115 w_1702 hd_X11_holds ⟨rfl, rfl, Nat.le_of_ble_eq_true rfl, Nat.le_of_ble_eq_true rfl, Nat.zero_le _, Nat.zero_le _⟩ hP hD hS hl.1 rfl (Nat.le_of_ble_eq_true rfl) dX11_next_49) (fun H locs hP hD hS => ?_)
        have K27 : ∀ (y19 : Int32) (y20 : Int64) (y21 : Int64) (y22 : Int64) (y23 : Int64) (hf : fX11_next_J148 y8 y19 y20 y21 y22 y23 = some u11) (H : Heap) (locs : List Loc) (ls : Array Slot), va_P (xsD X) vwCl (wM X o1.2 mWorld mImage mDraft mEarlier mRemembered mHasImage mIsLaid o3.2 mTwo mShare mX mY mD mEventX mEventY mEventD mEvents mCrossingOf mBundle mEventOf mDegree mFrom mTo mCrossings mEdges mMet mUpper mLower mTape mTaped mPoint mEnd mBegin mFaultAt mFive mTold mActs mFar mViews mHullX mHullY mEndX mEndY y22 y23 mMeets mMeetsOf Rw) H → va_D (xsF X) (wM X o1.2 mWorld mImage mDraft mEarlier mRemembered mHasImage mIsLaid o3.2 mTwo mShare mX mY mD mEventX mEventY mEventD mEvents mCrossingOf mBundle mEventOf mDegree mFrom mTo mCrossings mEdges mMet mUpper mLower mTape mTaped mPoint mEnd mBegin mFaultAt mFive mTold mActs mFar mViews mHullX mHullY mEndX mEndY y22 y23 mMeets mMeetsOf Rw) → va_S (xsF X) s.heap H locs → lv_has ls 13 [(0, .ref (xsA X 100)), (1, .int a0), (2, .int a1), (3, .int a2), (4, .int o3.1), (5, .int y19), (6, .long y20), (8, .long y21), (10, .int y8)] → W p l e { frames := 3, cells := 0, slots := 0, locals := 79 } s m ([.ref (xsA X 100), .int a0, .int a1, .int a2] : List Value).toArray below meth c H locs 0 0 (MQ below Qq ([.ref (xsA X 100), .int a0, .int a1, .int a2] : List Value).toArray s 0 0 (xsF X)) (F0 m 148 ls []) := by
          intro y19 y20 y21 y22 y23 hf H locs ls hP hD hS hl
          unfold fX11_next_J148 at hf
          obtain ⟨x24, ex24⟩ : ∃ y : Int32, y = y8 + (1 : Int32) := ⟨_, rfl⟩
          replace hf := xsLt_use ex24 hf
          refine lv_iinc (v := x24) (lv' := [(10, .int x24), (0, .ref (xsA X 100)), (1, .int a0), (2, .int a1), (3, .int a2), (4, .int o3.1), (5, .int y19), (6, .long y20), (8, .long y21)]) hx hb dX11_next_148 hl (k := 8) rfl (by rw [ex24]; rfl) (by decide) rfl (fun ls hl => ?_)
          refine lv_goto (tgt := 36) hx hb dX11_next_151 (by decide) ?_
          exact ih11 _ (Option.some.inj hf).symm hk11 H locs ls hP hD hS (lv_sub hl [1, 2, 3, 4, 5, 6, 7, 8, 0] rfl)
        replace hf := xsBd_use hf
        obtain ⟨v25, hf, hk26⟩ := hf
        refine lv_if_ne (tgt := 148) hx hb dX11_next_52 (by decide) (fun c40 => ?_) (fun c40 => ?_)
        · replace hf := xsBr_f c40 hf
          have ev := Option.some.inj hf
          subst ev
          exact K27 y5 y6 y7 y9 y10 hk26 H locs ls hP hD hS (lv_sub hl [0, 1, 2, 3, 4, 5, 6, 7, 8] rfl)
        · replace hf := xsBr_t c40 hf
          refine lv_aload_n hx hb dX11_next_55 rfl (lv_at hl 0 rfl) ?_
          refine lv_iload hx hb dX11_next_56 (lv_at hl 8 rfl) ?_
          refine lv_iload_n hx hb dX11_next_58 rfl (lv_at hl 1 rfl) ?_
          refine lv_iload_n hx hb dX11_next_59 rfl (lv_at hl 3 rfl) ?_
          replace hf := xsBd_use hf
          obtain ⟨o28, h29, hf⟩ := hf
          refine xs_calli hS (xs_runV (As := [.int y8, .int a0, .int a2]) C (mX11_hasHeight l  h29) w_1904 w_1906 w_93 w_115 w_1907 hd_X11_hasHeight ⟨rfl, rfl, Nat.le_of_ble_eq_true rfl, Nat.le_of_ble_eq_true rfl, Nat.zero_le _, Nat.zero_le _⟩ hP hD hS lk_X11 rfl hl.1 rfl (Nat.le_of_ble_eq_true rfl) dX11_next_60) (fun H locs hP hD hS => ?_)
          refine lv_if_ne (tgt := 69) hx hb dX11_next_63 (by decide) (fun c39 => ?_) (fun c39 => ?_)
          · replace hf := xsBr_f c39 hf
            refine lv_iload_n hx hb dX11_next_69 rfl (lv_at hl 3 rfl) ?_
            have K37 : ∀ (y30 : Int64) (hf : fX11_next_J100 y5 y6 y7 y8 o28 y30 = some v25) (H : Heap) (locs : List Loc) (ls : Array Slot), va_P (xsD X) vwCl (wM X o1.2 mWorld mImage mDraft mEarlier mRemembered mHasImage mIsLaid o3.2 mTwo mShare mX mY mD mEventX mEventY mEventD mEvents mCrossingOf mBundle mEventOf mDegree mFrom mTo mCrossings mEdges mMet mUpper mLower mTape mTaped mPoint mEnd mBegin mFaultAt mFive mTold mActs mFar mViews mHullX mHullY mEndX mEndY o28.2.1 o28.2.2 mMeets mMeetsOf Rw) H → va_D (xsF X) (wM X o1.2 mWorld mImage mDraft mEarlier mRemembered mHasImage mIsLaid o3.2 mTwo mShare mX mY mD mEventX mEventY mEventD mEvents mCrossingOf mBundle mEventOf mDegree mFrom mTo mCrossings mEdges mMet mUpper mLower mTape mTaped mPoint mEnd mBegin mFaultAt mFive mTold mActs mFar mViews mHullX mHullY mEndX mEndY o28.2.1 o28.2.2 mMeets mMeetsOf Rw) → va_S (xsF X) s.heap H locs → lv_has ls 13 [(0, .ref (xsA X 100)), (1, .int a0), (2, .int a1), (3, .int a2), (4, .int o3.1), (5, .int y5), (6, .long y6), (8, .long y7), (10, .int y8)] → W p l e { frames := 3, cells := 0, slots := 0, locals := 79 } s m ([.ref (xsA X 100), .int a0, .int a1, .int a2] : List Value).toArray below meth c H locs 0 0 (MQ below Qq ([.ref (xsA X 100), .int a0, .int a1, .int a2] : List Value).toArray s 0 0 (xsF X)) (F0 m 100 ls [.long y30]) := by
              intro y30 hf H locs ls hP hD hS hl
              unfold fX11_next_J100 at hf
              refine lv_lstore (lv' := [(11, .long y30), (0, .ref (xsA X 100)), (1, .int a0), (2, .int a1), (3, .int a2), (4, .int o3.1), (5, .int y5), (6, .long y6), (8, .long y7), (10, .int y8)]) hx hb dX11_next_100 hl (by decide) rfl (fun ls hl => ?_)
              refine lv_lload hx hb dX11_next_102 (lv_at hl 0 rfl) ?_
              refine lv_lconst (v := (0 : Int64)) hx hb dX11_next_104 (by decide) ?_
              refine xs_lcmp_le (tgt := 148) C dX11_next_105 dX11_next_106 (by decide) (fun c34 => ?_) (fun c34 => ?_)
              · replace hf := xsBr_t c34 hf
                have ev := Option.some.inj hf
                subst ev
                exact K27 y5 y6 y7 o28.2.1 o28.2.2 hk26 H locs ls hP hD hS (lv_sub hl [1, 2, 3, 4, 5, 6, 7, 8, 9] rfl)
              · replace hf := xsBr_f c34 hf
                refine lv_iload hx hb dX11_next_109 (lv_at hl 6 rfl) ?_
                refine lv_iconst (v := (-1 : Int32)) hx hb dX11_next_111 (by decide) ?_
                have K31 : ∀ (hf : fX11_next_J134 y8 o28 y30 = some v25) (H : Heap) (locs : List Loc) (ls : Array Slot), va_P (xsD X) vwCl (wM X o1.2 mWorld mImage mDraft mEarlier mRemembered mHasImage mIsLaid o3.2 mTwo mShare mX mY mD mEventX mEventY mEventD mEvents mCrossingOf mBundle mEventOf mDegree mFrom mTo mCrossings mEdges mMet mUpper mLower mTape mTaped mPoint mEnd mBegin mFaultAt mFive mTold mActs mFar mViews mHullX mHullY mEndX mEndY o28.2.1 o28.2.2 mMeets mMeetsOf Rw) H → va_D (xsF X) (wM X o1.2 mWorld mImage mDraft mEarlier mRemembered mHasImage mIsLaid o3.2 mTwo mShare mX mY mD mEventX mEventY mEventD mEvents mCrossingOf mBundle mEventOf mDegree mFrom mTo mCrossings mEdges mMet mUpper mLower mTape mTaped mPoint mEnd mBegin mFaultAt mFive mTold mActs mFar mViews mHullX mHullY mEndX mEndY o28.2.1 o28.2.2 mMeets mMeetsOf Rw) → va_S (xsF X) s.heap H locs → lv_has ls 13 [(0, .ref (xsA X 100)), (1, .int a0), (2, .int a1), (3, .int a2), (4, .int o3.1), (10, .int y8), (11, .long y30)] → W p l e { frames := 3, cells := 0, slots := 0, locals := 79 } s m ([.ref (xsA X 100), .int a0, .int a1, .int a2] : List Value).toArray below meth c H locs 0 0 (MQ below Qq ([.ref (xsA X 100), .int a0, .int a1, .int a2] : List Value).toArray s 0 0 (xsF X)) (F0 m 134 ls []) := by
                  intro hf H locs ls hP hD hS hl
                  unfold fX11_next_J134 at hf
                  refine lv_iload hx hb dX11_next_134 (lv_at hl 5 rfl) ?_
                  refine lv_istore (lv' := [(5, .int y8), (0, .ref (xsA X 100)), (1, .int a0), (2, .int a1), (3, .int a2), (4, .int o3.1), (10, .int y8), (11, .long y30)]) hx hb dX11_next_136 hl (by decide) rfl (fun ls hl => ?_)
                  refine lv_lload hx hb dX11_next_138 (lv_at hl 7 rfl) ?_
                  refine lv_lstore (lv' := [(6, .long y30), (5, .int y8), (0, .ref (xsA X 100)), (1, .int a0), (2, .int a1), (3, .int a2), (4, .int o3.1), (10, .int y8), (11, .long y30)]) hx hb dX11_next_140 hl (by decide) rfl (fun ls hl => ?_)
                  refine lv_aload_n hx hb dX11_next_142 rfl (lv_at hl 2 rfl) ?_
                  refine xg_X11_442 C hP dX11_next_143 ?_
                  refine lv_lstore (lv' := [(8, .long o28.2.2), (6, .long y30), (5, .int y8), (0, .ref (xsA X 100)), (1, .int a0), (2, .int a1), (3, .int a2), (4, .int o3.1), (10, .int y8), (11, .long y30)]) hx hb dX11_next_146 hl (by decide) rfl (fun ls hl => ?_)
                  have ev := Option.some.inj hf
                  subst ev
                  exact K27 y8 y30 o28.2.2 o28.2.1 o28.2.2 hk26 H locs ls hP hD hS (lv_sub hl [3, 4, 5, 6, 7, 2, 1, 0, 8] rfl)
                refine lv_icmp_eq (tgt := 134) hx hb dX11_next_112 (by decide) (fun c33 => ?_) (fun c33 => ?_)
                · replace hf := xsBr_t c33 hf
                  exact K31 hf H locs ls hP hD hS (lv_sub hl [1, 2, 3, 4, 5, 9, 0] rfl)
                · replace hf := xsBr_f c33 hf
                  refine lv_lload hx hb dX11_next_115 (lv_at hl 0 rfl) ?_
                  refine lv_lload hx hb dX11_next_117 (lv_at hl 8 rfl) ?_
                  refine lv_lmul hx hb dX11_next_119 ?_
                  refine lv_lload hx hb dX11_next_120 (lv_at hl 7 rfl) ?_
                  refine lv_aload_n hx hb dX11_next_122 rfl (lv_at hl 1 rfl) ?_
                  refine xg_X11_442 C hP dX11_next_123 ?_
                  refine lv_lmul hx hb dX11_next_126 ?_
                  refine xs_lcmp_lt (tgt := 134) C dX11_next_127 dX11_next_128 (by decide) (fun c32 => ?_) (fun c32 => ?_)
                  · replace hf := xsBr_t c32 hf
                    exact K31 hf H locs ls hP hD hS (lv_sub hl [1, 2, 3, 4, 5, 9, 0] rfl)
                  · replace hf := xsBr_f c32 hf
                    refine lv_goto (tgt := 148) hx hb dX11_next_131 (by decide) ?_
                    have ev := Option.some.inj hf
                    subst ev
                    exact K27 y5 y6 y7 o28.2.1 o28.2.2 hk26 H locs ls hP hD hS (lv_sub hl [1, 2, 3, 4, 5, 6, 7, 8, 9] rfl)
            replace hf := xsBd_use hf
            obtain ⟨v35, hf, hk36⟩ := hf
            refine lv_if_eq (tgt := 88) hx hb dX11_next_70 (by decide) (fun c38 => ?_) (fun c38 => ?_)
            · replace hf := xsBr_t c38 hf
              refine lv_iload_n hx hb dX11_next_88 rfl (lv_at hl 2 rfl) ?_
              refine lv_i2l hx hb dX11_next_89 rfl ?_
              refine lv_aload_n hx hb dX11_next_90 rfl (lv_at hl 0 rfl) ?_
              refine xg_X11_442 C hP dX11_next_91 ?_
              refine lv_lmul hx hb dX11_next_94 ?_
              refine lv_aload_n hx hb dX11_next_95 rfl (lv_at hl 0 rfl) ?_
              refine xg_X11_445 C hP dX11_next_96 ?_
              refine lv_lsub hx hb dX11_next_99 ?_
              have ev := Option.some.inj hf
              subst ev
              exact K37 ((a1.toInt64 * o28.2.2) - o28.2.1) hk36 H locs ls hP hD hS (lv_sub hl [0, 1, 2, 3, 4, 5, 6, 7, 8] rfl)
            · replace hf := xsBr_f c38 hf
              refine lv_aload_n hx hb dX11_next_73 rfl (lv_at hl 0 rfl) ?_
              refine xg_X11_445 C hP dX11_next_74 ?_
              refine lv_iload_n hx hb dX11_next_77 rfl (lv_at hl 2 rfl) ?_
              refine lv_i2l hx hb dX11_next_78 rfl ?_
              refine lv_aload_n hx hb dX11_next_79 rfl (lv_at hl 0 rfl) ?_
              refine xg_X11_442 C hP dX11_next_80 ?_
              refine lv_lmul hx hb dX11_next_83 ?_
              refine lv_lsub hx hb dX11_next_84 ?_
              refine lv_goto (tgt := 100) hx hb dX11_next_85 (by decide) ?_
              have ev := Option.some.inj hf
              subst ev
              exact K37 (o28.2.1 - (a1.toInt64 * o28.2.2)) hk36 H locs ls hP hD hS (lv_sub hl [0, 1, 2, 3, 4, 5, 6, 7, 8] rfl)
          · replace hf := xsBr_t c39 hf
            refine lv_goto (tgt := 148) hx hb dX11_next_66 (by decide) ?_
            have ev := Option.some.inj hf
            subst ev
            exact K27 y5 y6 y7 o28.2.1 o28.2.2 hk26 H locs ls hP hD hS (lv_sub hl [0, 1, 2, 3, 4, 5, 6, 7, 8] rfl)
    exact L11 ((-1 : Int32), (0 : Int64), (1 : Int64), (0 : Int32), mHeightUp, mHeightLow) r11 hk110 hf H locs ls hP hD hS (lv_sub hl [5, 6, 7, 8, 4, 3, 2, 1, 0] rfl)
  · replace hf := xsBr_f c42 hf
    refine lv_iconst (v := (0 : Int32)) hx hb dX11_next_14 (by decide) ?_
    have ho := Option.some.inj hf
    subst ho
    rw [hQq]
    exact xs_iret C hr hlk hP hD hS dX11_next_15
set_option maxRecDepth 100000 in
set_option maxHeartbeats 8000000 in
theorem mX11_over (l : Launch) {X : xsX} {mThrown mRemembered mHasImage mIsLaid mEvents mCrossings mEdges mTaped mPoint mEnd mBegin mFaultAt mActs : Int32} {mWorld mImage mDraft mEarlier mOne mTwo mShare mCrossingOf mBundle mEventOf mDegree mFrom mTo mMet mTape mFive mTold mFar mViews mHullX mHullY mEndX mEndY mMeets mMeetsOf : Nat → Int32} {mX mY mD mHeightUp mHeightLow : Int64} {mEventX mEventY mEventD mUpper mLower : Nat → Int64} {Rw : va_W} {a0 : Int32} {a1 : Int32} {out : Int32 × Int32 × Int64 × Int64} (hf : fX11_over mThrown mWorld mHeightUp mHeightLow a0 a1 = some out) : Met l yX11_over (xsWs yX11_over cX11_over 5 (some .int)) { frames := 3, cells := 0, slots := 0, locals := 68 } (xsP X (wM X mThrown mWorld mImage mDraft mEarlier mRemembered mHasImage mIsLaid mOne mTwo mShare mX mY mD mEventX mEventY mEventD mEvents mCrossingOf mBundle mEventOf mDegree mFrom mTo mCrossings mEdges mMet mUpper mLower mTape mTaped mPoint mEnd mBegin mFaultAt mFive mTold mActs mFar mViews mHullX mHullY mEndX mEndY mHeightUp mHeightLow mMeets mMeetsOf Rw) [.ref (xsA X 100), .int a0, .int a1]) (xsQi X out.1 (wM X out.2.1 mWorld mImage mDraft mEarlier mRemembered mHasImage mIsLaid mOne mTwo mShare mX mY mD mEventX mEventY mEventD mEvents mCrossingOf mBundle mEventOf mDegree mFrom mTo mCrossings mEdges mMet mUpper mLower mTape mTaped mPoint mEnd mBegin mFaultAt mFive mTold mActs mFar mViews mHullX mHullY mEndX mEndY out.2.2.1 out.2.2.2 mMeets mMeetsOf Rw)) 0 0 (xsF X) := by
  refine xs_meth RX11 (by decide) rfl (Nat.le_of_ble_eq_true rfl) ?_
  intro p e s m below meth c ls H locs C hP hD hS hr hlk hl
  have hx := C.1
  have hb := C.2.1
  have hl : lv_has ls 5 [(0, .ref (xsA X 100)), (1, .int a0), (2, .int a1)] := hl
  obtain ⟨Qq, hQq⟩ : ∃ Qq, Qq = xsQi X out.1 (wM X out.2.1 mWorld mImage mDraft mEarlier mRemembered mHasImage mIsLaid mOne mTwo mShare mX mY mD mEventX mEventY mEventD mEvents mCrossingOf mBundle mEventOf mDegree mFrom mTo mCrossings mEdges mMet mUpper mLower mTape mTaped mPoint mEnd mBegin mFaultAt mFive mTold mActs mFar mViews mHullX mHullY mEndX mEndY out.2.2.1 out.2.2.2 mMeets mMeetsOf Rw) := ⟨_, rfl⟩
  rw [← hQq]
  unfold fX11_over at hf
  refine lv_aload_n hx hb dX11_over_0 rfl (lv_at hl 0 rfl) ?_
  refine lv_iconst (v := (0 : Int32)) hx hb dX11_over_1 (by decide) ?_
  refine xp_X11_3 C hP hD hS dX11_over_2 (fun H locs hP hD hS => ?_)
  refine lv_aload_n hx hb dX11_over_5 rfl (lv_at hl 0 rfl) ?_
  refine lv_iload_n hx hb dX11_over_6 rfl (lv_at hl 1 rfl) ?_
  refine lv_iload_n hx hb dX11_over_7 rfl (lv_at hl 2 rfl) ?_
  replace hf := xsBd_use hf
  obtain ⟨o1, h2, hf⟩ := hf
  refine xs_calli hS (xs_runV (As := [.int a0, .int a1]) C (mX11_noPlace l  h2) w_1892 w_1894 w_91 w_115 w_1895 hd_X11_noPlace ⟨rfl, rfl, Nat.le_of_ble_eq_true rfl, Nat.le_of_ble_eq_true rfl, Nat.zero_le _, Nat.zero_le _⟩ hP hD hS lk_X11 rfl hl.1 rfl (Nat.le_of_ble_eq_true rfl) dX11_over_8) (fun H locs hP hD hS => ?_)
  refine lv_if_eq (tgt := 16) hx hb dX11_over_11 (by decide) (fun c32 => ?_) (fun c32 => ?_)
  · replace hf := xsBr_t c32 hf
    refine lv_iconst (v := (0 : Int32)) hx hb dX11_over_16 (by decide) ?_
    refine lv_istore_n (lv' := [(3, .int (0 : Int32)), (0, .ref (xsA X 100)), (1, .int a0), (2, .int a1)]) hx hb dX11_over_17 rfl hl (by decide) rfl (fun ls hl => ?_)
    refine lv_iconst (v := (0 : Int32)) hx hb dX11_over_18 (by decide) ?_
    refine lv_istore (lv' := [(4, .int (0 : Int32)), (3, .int (0 : Int32)), (0, .ref (xsA X 100)), (1, .int a0), (2, .int a1)]) hx hb dX11_over_19 hl (by decide) rfl (fun ls hl => ?_)
    have K7 : ∀ (y8 : Int32) (y9 : Int64) (y10 : Int64) (hf : fX11_over_J90 o1 y8 y9 y10 = some out) (H : Heap) (locs : List Loc) (ls : Array Slot), va_P (xsD X) vwCl (wM X o1.2 mWorld mImage mDraft mEarlier mRemembered mHasImage mIsLaid mOne mTwo mShare mX mY mD mEventX mEventY mEventD mEvents mCrossingOf mBundle mEventOf mDegree mFrom mTo mCrossings mEdges mMet mUpper mLower mTape mTaped mPoint mEnd mBegin mFaultAt mFive mTold mActs mFar mViews mHullX mHullY mEndX mEndY y9 y10 mMeets mMeetsOf Rw) H → va_D (xsF X) (wM X o1.2 mWorld mImage mDraft mEarlier mRemembered mHasImage mIsLaid mOne mTwo mShare mX mY mD mEventX mEventY mEventD mEvents mCrossingOf mBundle mEventOf mDegree mFrom mTo mCrossings mEdges mMet mUpper mLower mTape mTaped mPoint mEnd mBegin mFaultAt mFive mTold mActs mFar mViews mHullX mHullY mEndX mEndY y9 y10 mMeets mMeetsOf Rw) → va_S (xsF X) s.heap H locs → lv_has ls 5 [(3, .int y8)] → W p l e { frames := 3, cells := 0, slots := 0, locals := 68 } s m ([.ref (xsA X 100), .int a0, .int a1] : List Value).toArray below meth c H locs 0 0 (MQ below Qq ([.ref (xsA X 100), .int a0, .int a1] : List Value).toArray s 0 0 (xsF X)) (F0 m 90 ls []) := by
      intro y8 y9 y10 hf H locs ls hP hD hS hl
      unfold fX11_over_J90 at hf
      refine lv_iload_n hx hb dX11_over_90 rfl (lv_at hl 0 rfl) ?_
      have ho := Option.some.inj hf
      subst ho
      rw [hQq]
      exact xs_iret C hr hlk hP hD hS dX11_over_91
    replace hf := xsBd_use hf
    obtain ⟨r7, hk70, hf⟩ := hf
    have L7 : ∀ (sg : Int32 × Int32 × Int64 × Int64) (rg : Int32 × Int64 × Int64), xsWh (fun s7 => fX11_over_L21 mWorld a0 a1 s7.1 s7.2.1 s7.2.2.1 s7.2.2.2) sg = some rg → (fX11_over_J90 o1 rg.1 rg.2.1 rg.2.2 = some out → ∀ (H : Heap) (locs : List Loc) (ls : Array Slot), va_P (xsD X) vwCl (wM X o1.2 mWorld mImage mDraft mEarlier mRemembered mHasImage mIsLaid mOne mTwo mShare mX mY mD mEventX mEventY mEventD mEvents mCrossingOf mBundle mEventOf mDegree mFrom mTo mCrossings mEdges mMet mUpper mLower mTape mTaped mPoint mEnd mBegin mFaultAt mFive mTold mActs mFar mViews mHullX mHullY mEndX mEndY sg.2.2.1 sg.2.2.2 mMeets mMeetsOf Rw) H → va_D (xsF X) (wM X o1.2 mWorld mImage mDraft mEarlier mRemembered mHasImage mIsLaid mOne mTwo mShare mX mY mD mEventX mEventY mEventD mEvents mCrossingOf mBundle mEventOf mDegree mFrom mTo mCrossings mEdges mMet mUpper mLower mTape mTaped mPoint mEnd mBegin mFaultAt mFive mTold mActs mFar mViews mHullX mHullY mEndX mEndY sg.2.2.1 sg.2.2.2 mMeets mMeetsOf Rw) → va_S (xsF X) s.heap H locs → lv_has ls 5 [(0, .ref (xsA X 100)), (1, .int a0), (2, .int a1), (3, .int sg.1), (4, .int sg.2.1)] → W p l e { frames := 3, cells := 0, slots := 0, locals := 68 } s m ([.ref (xsA X 100), .int a0, .int a1] : List Value).toArray below meth c H locs 0 0 (MQ below Qq ([.ref (xsA X 100), .int a0, .int a1] : List Value).toArray s 0 0 (xsF X)) (F0 m 21 ls [])) := by
      refine xsWh_ind ?_
      intro sg r7 u7 hf ih7 hx7 hk7 H locs ls hP hD hS hl
      obtain ⟨y3, y4, y5, y6⟩ := sg
      replace hf : fX11_over_L21 mWorld a0 a1 y3 y4 y5 y6 = some u7 := hf
      replace hl : lv_has ls 5 [(0, .ref (xsA X 100)), (1, .int a0), (2, .int a1), (3, .int y3), (4, .int y4)] := hl
      replace hP : va_P (xsD X) vwCl (wM X o1.2 mWorld mImage mDraft mEarlier mRemembered mHasImage mIsLaid mOne mTwo mShare mX mY mD mEventX mEventY mEventD mEvents mCrossingOf mBundle mEventOf mDegree mFrom mTo mCrossings mEdges mMet mUpper mLower mTape mTaped mPoint mEnd mBegin mFaultAt mFive mTold mActs mFar mViews mHullX mHullY mEndX mEndY y5 y6 mMeets mMeetsOf Rw) H := hP
      replace hD : va_D (xsF X) (wM X o1.2 mWorld mImage mDraft mEarlier mRemembered mHasImage mIsLaid mOne mTwo mShare mX mY mD mEventX mEventY mEventD mEvents mCrossingOf mBundle mEventOf mDegree mFrom mTo mCrossings mEdges mMet mUpper mLower mTape mTaped mPoint mEnd mBegin mFaultAt mFive mTold mActs mFar mViews mHullX mHullY mEndX mEndY y5 y6 mMeets mMeetsOf Rw) := hD
      unfold fX11_over_L21 at hf
      refine lv_iload hx hb dX11_over_21 (lv_at hl 4 rfl) ?_
      refine lv_aload_n hx hb dX11_over_23 rfl (lv_at hl 0 rfl) ?_
      replace hf := xsBd_use hf
      obtain ⟨o11, h12, hf⟩ := hf
      refine xs_calli hS (xs_runV (As := []) C (mX11_many l  h12) w_1581 w_1583 w_44 w_115 w_1584 hd_X11_many ⟨rfl, rfl, Nat.le_of_ble_eq_true rfl, Nat.le_of_ble_eq_true rfl, Nat.zero_le _, Nat.zero_le _⟩ hP hD hS lk_X11 rfl hl.1 rfl (Nat.le_of_ble_eq_true rfl) dX11_over_24) (fun H locs hP hD hS => ?_)
      refine lv_icmp_ge (tgt := 90) hx hb dX11_over_27 (by decide) (fun c31 => ?_) (fun c31 => ?_)
      · replace hf := xsBr_t c31 hf
        have ez := hx7 _ (Option.some.inj hf).symm
        subst ez
        exact K7 y3 y5 y6 hk7 H locs ls hP hD hS (lv_sub hl [3] rfl)
      · replace hf := xsBr_f c31 hf
        refine lv_iload_n hx hb dX11_over_30 rfl (lv_at hl 3 rfl) ?_
        refine lv_aload_n hx hb dX11_over_31 rfl (lv_at hl 0 rfl) ?_
        refine lv_iload hx hb dX11_over_32 (lv_at hl 4 rfl) ?_
        replace hf := xsBd_use hf
        obtain ⟨o13, h14, hf⟩ := hf
        refine xs_calli hS (xs_runV (As := [.int y4]) C (mX11_isUpright l  h14) w_1728 w_1730 w_67 w_115 w_1731 hd_X11_isUpright ⟨rfl, rfl, Nat.le_of_ble_eq_true rfl, Nat.le_of_ble_eq_true rfl, Nat.zero_le _, Nat.zero_le _⟩ hP hD hS lk_X11 rfl hl.1 rfl (Nat.le_of_ble_eq_true rfl) dX11_over_34) (fun H locs hP hD hS => ?_)
        have K22 : ∀ (y15 : Int32) (y16 : Int64) (y17 : Int64) (hf : fX11_over_J82 y3 y4 y15 y16 y17 = some u7) (H : Heap) (locs : List Loc) (ls : Array Slot), va_P (xsD X) vwCl (wM X o1.2 mWorld mImage mDraft mEarlier mRemembered mHasImage mIsLaid mOne mTwo mShare mX mY mD mEventX mEventY mEventD mEvents mCrossingOf mBundle mEventOf mDegree mFrom mTo mCrossings mEdges mMet mUpper mLower mTape mTaped mPoint mEnd mBegin mFaultAt mFive mTold mActs mFar mViews mHullX mHullY mEndX mEndY y16 y17 mMeets mMeetsOf Rw) H → va_D (xsF X) (wM X o1.2 mWorld mImage mDraft mEarlier mRemembered mHasImage mIsLaid mOne mTwo mShare mX mY mD mEventX mEventY mEventD mEvents mCrossingOf mBundle mEventOf mDegree mFrom mTo mCrossings mEdges mMet mUpper mLower mTape mTaped mPoint mEnd mBegin mFaultAt mFive mTold mActs mFar mViews mHullX mHullY mEndX mEndY y16 y17 mMeets mMeetsOf Rw) → va_S (xsF X) s.heap H locs → lv_has ls 5 [(0, .ref (xsA X 100)), (1, .int a0), (2, .int a1), (4, .int y4)] → W p l e { frames := 3, cells := 0, slots := 0, locals := 68 } s m ([.ref (xsA X 100), .int a0, .int a1] : List Value).toArray below meth c H locs 0 0 (MQ below Qq ([.ref (xsA X 100), .int a0, .int a1] : List Value).toArray s 0 0 (xsF X)) (F0 m 82 ls [.int y15, .int y3]) := by
          intro y15 y16 y17 hf H locs ls hP hD hS hl
          unfold fX11_over_J82 at hf
          refine lv_iadd hx hb dX11_over_82 ?_
          refine lv_topi (fun x18 ex18 => ?_)
          replace hf := xsLt_use ex18 hf
          refine lv_istore_n (lv' := [(3, .int x18), (0, .ref (xsA X 100)), (1, .int a0), (2, .int a1), (4, .int y4)]) hx hb dX11_over_83 rfl hl (by decide) rfl (fun ls hl => ?_)
          obtain ⟨x19, ex19⟩ : ∃ y : Int32, y = y4 + (1 : Int32) := ⟨_, rfl⟩
          replace hf := xsLt_use ex19 hf
          refine lv_iinc (v := x19) (lv' := [(4, .int x19), (3, .int x18), (0, .ref (xsA X 100)), (1, .int a0), (2, .int a1)]) hx hb dX11_over_84 hl (k := 4) rfl (by rw [ex19]; rfl) (by decide) rfl (fun ls hl => ?_)
          refine lv_goto (tgt := 21) hx hb dX11_over_87 (by decide) ?_
          exact ih7 _ (Option.some.inj hf).symm hk7 H locs ls hP hD hS (lv_sub hl [2, 3, 4, 1, 0] rfl)
        replace hf := xsBd_use hf
        obtain ⟨v20, hf, hk21⟩ := hf
        refine lv_if_ne (tgt := 81) hx hb dX11_over_37 (by decide) (fun c30 => ?_) (fun c30 => ?_)
        · replace hf := xsBr_f c30 hf
          refine lv_iconst (v := (0 : Int32)) hx hb dX11_over_81 (by decide) ?_
          have ev := Option.some.inj hf
          subst ev
          exact K22 (0 : Int32) y5 y6 hk21 H locs ls hP hD hS (lv_sub hl [0, 1, 2, 4] rfl)
        · replace hf := xsBr_t c30 hf
          refine lv_iload_n hx hb dX11_over_40 rfl (lv_at hl 1 rfl) ?_
          refine lv_aload_n hx hb dX11_over_41 rfl (lv_at hl 0 rfl) ?_
          refine lv_iload hx hb dX11_over_42 (lv_at hl 4 rfl) ?_
          refine lv_iconst (v := (2 : Int32)) hx hb dX11_over_44 (by decide) ?_
          replace hf := xsBd_use hf
          obtain ⟨o23, h24, hf⟩ := hf
          refine xs_calli hS (xs_runV (As := [.int y4, .int (2 : Int32)]) C (mX11_of l  h24) w_1608 w_1610 w_50 w_115 w_1611 hd_X11_of ⟨rfl, rfl, Nat.le_of_ble_eq_true rfl, Nat.le_of_ble_eq_true rfl, Nat.zero_le _, Nat.zero_le _⟩ hP hD hS lk_X11 rfl hl.1 rfl (Nat.le_of_ble_eq_true rfl) dX11_over_45) (fun H locs hP hD hS => ?_)
          refine lv_icmp_ge (tgt := 81) hx hb dX11_over_48 (by decide) (fun c29 => ?_) (fun c29 => ?_)
          · replace hf := xsBr_t c29 hf
            refine lv_iconst (v := (0 : Int32)) hx hb dX11_over_81 (by decide) ?_
            have ev := Option.some.inj hf
            subst ev
            exact K22 (0 : Int32) y5 y6 hk21 H locs ls hP hD hS (lv_sub hl [0, 1, 2, 4] rfl)
          · replace hf := xsBr_f c29 hf
            refine lv_aload_n hx hb dX11_over_51 rfl (lv_at hl 0 rfl) ?_
            refine lv_iload hx hb dX11_over_52 (lv_at hl 4 rfl) ?_
            refine lv_iload_n hx hb dX11_over_54 rfl (lv_at hl 1 rfl) ?_
            refine lv_iconst (v := (1 : Int32)) hx hb dX11_over_55 (by decide) ?_
            replace hf := xsBd_use hf
            obtain ⟨o25, h26, hf⟩ := hf
            refine xs_calli hS (xs_runV (As := [.int y4, .int a0, .int (1 : Int32)]) C (mX11_hasHeight l  h26) w_1904 w_1906 w_93 w_115 w_1907 hd_X11_hasHeight ⟨rfl, rfl, Nat.le_of_ble_eq_true rfl, Nat.le_of_ble_eq_true rfl, Nat.zero_le _, Nat.zero_le _⟩ hP hD hS lk_X11 rfl hl.1 rfl (Nat.le_of_ble_eq_true rfl) dX11_over_56) (fun H locs hP hD hS => ?_)
            refine lv_if_eq (tgt := 81) hx hb dX11_over_59 (by decide) (fun c28 => ?_) (fun c28 => ?_)
            · replace hf := xsBr_t c28 hf
              refine lv_iconst (v := (0 : Int32)) hx hb dX11_over_81 (by decide) ?_
              have ev := Option.some.inj hf
              subst ev
              exact K22 (0 : Int32) o25.2.1 o25.2.2 hk21 H locs ls hP hD hS (lv_sub hl [0, 1, 2, 4] rfl)
            · replace hf := xsBr_f c28 hf
              refine lv_aload_n hx hb dX11_over_62 rfl (lv_at hl 0 rfl) ?_
              refine xg_X11_445 C hP dX11_over_63 ?_
              refine lv_iload_n hx hb dX11_over_66 rfl (lv_at hl 2 rfl) ?_
              refine lv_i2l hx hb dX11_over_67 rfl ?_
              refine lv_aload_n hx hb dX11_over_68 rfl (lv_at hl 0 rfl) ?_
              refine xg_X11_442 C hP dX11_over_69 ?_
              refine lv_lmul hx hb dX11_over_72 ?_
              refine xs_lcmp_le (tgt := 81) C dX11_over_73 dX11_over_74 (by decide) (fun c27 => ?_) (fun c27 => ?_)
              · replace hf := xsBr_t c27 hf
                refine lv_iconst (v := (0 : Int32)) hx hb dX11_over_81 (by decide) ?_
                have ev := Option.some.inj hf
                subst ev
                exact K22 (0 : Int32) o25.2.1 o25.2.2 hk21 H locs ls hP hD hS (lv_sub hl [0, 1, 2, 4] rfl)
              · replace hf := xsBr_f c27 hf
                refine lv_iconst (v := (1 : Int32)) hx hb dX11_over_77 (by decide) ?_
                refine lv_goto (tgt := 82) hx hb dX11_over_78 (by decide) ?_
                have ev := Option.some.inj hf
                subst ev
                exact K22 (1 : Int32) o25.2.1 o25.2.2 hk21 H locs ls hP hD hS (lv_sub hl [0, 1, 2, 4] rfl)
    exact L7 ((0 : Int32), (0 : Int32), mHeightUp, mHeightLow) r7 hk70 hf H locs ls hP hD hS (lv_sub hl [2, 3, 4, 1, 0] rfl)
  · replace hf := xsBr_f c32 hf
    refine lv_iconst (v := (0 : Int32)) hx hb dX11_over_14 (by decide) ?_
    have ho := Option.some.inj hf
    subst ho
    rw [hQq]
    exact xs_iret C hr hlk hP hD hS dX11_over_15
set_option maxRecDepth 100000 in
set_option maxHeartbeats 8000000 in
theorem mX11_takesStretch (l : Launch) {X : xsX} {mThrown mRemembered mHasImage mIsLaid mEvents mCrossings mEdges mTaped mPoint mEnd mBegin mFaultAt mActs : Int32} {mWorld mImage mDraft mEarlier mOne mTwo mShare mCrossingOf mBundle mEventOf mDegree mFrom mTo mMet mTape mFive mTold mFar mViews mHullX mHullY mEndX mEndY mMeets mMeetsOf : Nat → Int32} {mX mY mD mHeightUp mHeightLow : Int64} {mEventX mEventY mEventD mUpper mLower : Nat → Int64} {Rw : va_W} {a0 : Int32} {a1 : Int32} {a2 : Int32} {a3 : Int32} {out : (Nat → Int32)} (hf : fX11_takesStretch mTwo a0 a1 a2 a3 = some out) : Met l yX11_takesStretch (xsWs yX11_takesStretch cX11_takesStretch 6 none) { frames := 1, cells := 0, slots := 0, locals := 23 } (xsP X (wM X mThrown mWorld mImage mDraft mEarlier mRemembered mHasImage mIsLaid mOne mTwo mShare mX mY mD mEventX mEventY mEventD mEvents mCrossingOf mBundle mEventOf mDegree mFrom mTo mCrossings mEdges mMet mUpper mLower mTape mTaped mPoint mEnd mBegin mFaultAt mFive mTold mActs mFar mViews mHullX mHullY mEndX mEndY mHeightUp mHeightLow mMeets mMeetsOf Rw) [.ref (xsA X 100), .int a0, .int a1, .int a2, .int a3]) (xsQv X (wM X mThrown mWorld mImage mDraft mEarlier mRemembered mHasImage mIsLaid mOne out mShare mX mY mD mEventX mEventY mEventD mEvents mCrossingOf mBundle mEventOf mDegree mFrom mTo mCrossings mEdges mMet mUpper mLower mTape mTaped mPoint mEnd mBegin mFaultAt mFive mTold mActs mFar mViews mHullX mHullY mEndX mEndY mHeightUp mHeightLow mMeets mMeetsOf Rw)) 0 0 (xsF X) := by
  refine xs_meth RX11 (by decide) rfl (Nat.le_of_ble_eq_true rfl) ?_
  intro p e s m below meth c ls H locs C hP hD hS hr hlk hl
  have hx := C.1
  have hb := C.2.1
  have hl : lv_has ls 6 [(0, .ref (xsA X 100)), (1, .int a0), (2, .int a1), (3, .int a2), (4, .int a3)] := hl
  obtain ⟨Qq, hQq⟩ : ∃ Qq, Qq = xsQv X (wM X mThrown mWorld mImage mDraft mEarlier mRemembered mHasImage mIsLaid mOne out mShare mX mY mD mEventX mEventY mEventD mEvents mCrossingOf mBundle mEventOf mDegree mFrom mTo mCrossings mEdges mMet mUpper mLower mTape mTaped mPoint mEnd mBegin mFaultAt mFive mTold mActs mFar mViews mHullX mHullY mEndX mEndY mHeightUp mHeightLow mMeets mMeetsOf Rw) := ⟨_, rfl⟩
  rw [← hQq]
  unfold fX11_takesStretch at hf
  refine lv_iload_n hx hb dX11_takesStretch_0 rfl (lv_at hl 3 rfl) ?_
  refine lv_iload hx hb dX11_takesStretch_1 (lv_at hl 4 rfl) ?_
  refine lv_iload_n hx hb dX11_takesStretch_3 rfl (lv_at hl 1 rfl) ?_
  refine lv_iload_n hx hb dX11_takesStretch_4 rfl (lv_at hl 2 rfl) ?_
  replace hf := xsBd_use hf
  obtain ⟨o1, h2, hf⟩ := hf
  refine xs_calli hS (xs_runS (As := [.int a2, .int a3, .int a0, .int a1]) C (mX11_isAhead l  h2) w_1688 w_1689 w_115 w_1690 hd_X11_isAhead ⟨rfl, rfl, Nat.le_of_ble_eq_true rfl, Nat.le_of_ble_eq_true rfl, Nat.zero_le _, Nat.zero_le _⟩ hP hD hS hl.1 rfl (Nat.le_of_ble_eq_true rfl) dX11_takesStretch_5) (fun H locs hP hD hS => ?_)
  have K34 : ∀ (y3 : Int32) (hf : fX11_takesStretch_J16 mTwo a0 a1 a2 a3 y3 = some out) (H : Heap) (locs : List Loc) (ls : Array Slot), va_P (xsD X) vwCl (wM X mThrown mWorld mImage mDraft mEarlier mRemembered mHasImage mIsLaid mOne mTwo mShare mX mY mD mEventX mEventY mEventD mEvents mCrossingOf mBundle mEventOf mDegree mFrom mTo mCrossings mEdges mMet mUpper mLower mTape mTaped mPoint mEnd mBegin mFaultAt mFive mTold mActs mFar mViews mHullX mHullY mEndX mEndY mHeightUp mHeightLow mMeets mMeetsOf Rw) H → va_D (xsF X) (wM X mThrown mWorld mImage mDraft mEarlier mRemembered mHasImage mIsLaid mOne mTwo mShare mX mY mD mEventX mEventY mEventD mEvents mCrossingOf mBundle mEventOf mDegree mFrom mTo mCrossings mEdges mMet mUpper mLower mTape mTaped mPoint mEnd mBegin mFaultAt mFive mTold mActs mFar mViews mHullX mHullY mEndX mEndY mHeightUp mHeightLow mMeets mMeetsOf Rw) → va_S (xsF X) s.heap H locs → lv_has ls 6 [(0, .ref (xsA X 100)), (1, .int a0), (2, .int a1), (3, .int a2), (4, .int a3)] → W p l e { frames := 1, cells := 0, slots := 0, locals := 23 } s m ([.ref (xsA X 100), .int a0, .int a1, .int a2, .int a3] : List Value).toArray below meth c H locs 0 0 (MQ below Qq ([.ref (xsA X 100), .int a0, .int a1, .int a2, .int a3] : List Value).toArray s 0 0 (xsF X)) (F0 m 16 ls [.int y3]) := by
    intro y3 hf H locs ls hP hD hS hl
    unfold fX11_takesStretch_J16 at hf
    refine lv_istore (lv' := [(5, .int y3), (0, .ref (xsA X 100)), (1, .int a0), (2, .int a1), (3, .int a2), (4, .int a3)]) hx hb dX11_takesStretch_16 hl (by decide) rfl (fun ls hl => ?_)
    refine lv_aload_n hx hb dX11_takesStretch_18 rfl (lv_at hl 1 rfl) ?_
    refine xg_X11_29 C hP dX11_takesStretch_19 ?_
    refine lv_iconst (v := (0 : Int32)) hx hb dX11_takesStretch_22 (by decide) ?_
    refine lv_iload hx hb dX11_takesStretch_23 (lv_at hl 0 rfl) ?_
    have K30 : ∀ (y4 : Int32) (hf : fX11_takesStretch_J33 mTwo a0 a1 a2 a3 y3 y4 = some out) (H : Heap) (locs : List Loc) (ls : Array Slot), va_P (xsD X) vwCl (wM X mThrown mWorld mImage mDraft mEarlier mRemembered mHasImage mIsLaid mOne mTwo mShare mX mY mD mEventX mEventY mEventD mEvents mCrossingOf mBundle mEventOf mDegree mFrom mTo mCrossings mEdges mMet mUpper mLower mTape mTaped mPoint mEnd mBegin mFaultAt mFive mTold mActs mFar mViews mHullX mHullY mEndX mEndY mHeightUp mHeightLow mMeets mMeetsOf Rw) H → va_D (xsF X) (wM X mThrown mWorld mImage mDraft mEarlier mRemembered mHasImage mIsLaid mOne mTwo mShare mX mY mD mEventX mEventY mEventD mEvents mCrossingOf mBundle mEventOf mDegree mFrom mTo mCrossings mEdges mMet mUpper mLower mTape mTaped mPoint mEnd mBegin mFaultAt mFive mTold mActs mFar mViews mHullX mHullY mEndX mEndY mHeightUp mHeightLow mMeets mMeetsOf Rw) → va_S (xsF X) s.heap H locs → lv_has ls 6 [(0, .ref (xsA X 100)), (1, .int a0), (2, .int a1), (3, .int a2), (4, .int a3), (5, .int y3)] → W p l e { frames := 1, cells := 0, slots := 0, locals := 23 } s m ([.ref (xsA X 100), .int a0, .int a1, .int a2, .int a3] : List Value).toArray below meth c H locs 0 0 (MQ below Qq ([.ref (xsA X 100), .int a0, .int a1, .int a2, .int a3] : List Value).toArray s 0 0 (xsF X)) (F0 m 33 ls [.int y4, .int (0 : Int32), .ref (xsA X 106)]) := by
      intro y4 hf H locs ls hP hD hS hl
      unfold fX11_takesStretch_J33 at hf
      replace hf := xsCk_use hf
      obtain ⟨h5, hf⟩ := hf
      refine xs_mTwo C hP hD hS h5 dX11_takesStretch_33 (fun f6 ef6 H locs hP hD hS => ?_)
      replace hf := xsLt_use ef6 hf
      refine lv_aload_n hx hb dX11_takesStretch_34 rfl (lv_at hl 0 rfl) ?_
      refine xg_X11_29 C hP dX11_takesStretch_35 ?_
      refine lv_iconst (v := (1 : Int32)) hx hb dX11_takesStretch_38 (by decide) ?_
      refine lv_iload hx hb dX11_takesStretch_39 (lv_at hl 5 rfl) ?_
      have K26 : ∀ (y7 : Int32) (hf : fX11_takesStretch_J50 a0 a1 a2 a3 y3 f6 y7 = some out) (H : Heap) (locs : List Loc) (ls : Array Slot), va_P (xsD X) vwCl (wM X mThrown mWorld mImage mDraft mEarlier mRemembered mHasImage mIsLaid mOne f6 mShare mX mY mD mEventX mEventY mEventD mEvents mCrossingOf mBundle mEventOf mDegree mFrom mTo mCrossings mEdges mMet mUpper mLower mTape mTaped mPoint mEnd mBegin mFaultAt mFive mTold mActs mFar mViews mHullX mHullY mEndX mEndY mHeightUp mHeightLow mMeets mMeetsOf Rw) H → va_D (xsF X) (wM X mThrown mWorld mImage mDraft mEarlier mRemembered mHasImage mIsLaid mOne f6 mShare mX mY mD mEventX mEventY mEventD mEvents mCrossingOf mBundle mEventOf mDegree mFrom mTo mCrossings mEdges mMet mUpper mLower mTape mTaped mPoint mEnd mBegin mFaultAt mFive mTold mActs mFar mViews mHullX mHullY mEndX mEndY mHeightUp mHeightLow mMeets mMeetsOf Rw) → va_S (xsF X) s.heap H locs → lv_has ls 6 [(0, .ref (xsA X 100)), (1, .int a0), (2, .int a1), (3, .int a2), (4, .int a3), (5, .int y3)] → W p l e { frames := 1, cells := 0, slots := 0, locals := 23 } s m ([.ref (xsA X 100), .int a0, .int a1, .int a2, .int a3] : List Value).toArray below meth c H locs 0 0 (MQ below Qq ([.ref (xsA X 100), .int a0, .int a1, .int a2, .int a3] : List Value).toArray s 0 0 (xsF X)) (F0 m 50 ls [.int y7, .int (1 : Int32), .ref (xsA X 106)]) := by
        intro y7 hf H locs ls hP hD hS hl
        unfold fX11_takesStretch_J50 at hf
        replace hf := xsCk_use hf
        obtain ⟨h8, hf⟩ := hf
        refine xs_mTwo C hP hD hS h8 dX11_takesStretch_50 (fun f9 ef9 H locs hP hD hS => ?_)
        replace hf := xsLt_use ef9 hf
        refine lv_aload_n hx hb dX11_takesStretch_51 rfl (lv_at hl 0 rfl) ?_
        refine xg_X11_29 C hP dX11_takesStretch_52 ?_
        refine lv_iconst (v := (2 : Int32)) hx hb dX11_takesStretch_55 (by decide) ?_
        refine lv_iload hx hb dX11_takesStretch_56 (lv_at hl 5 rfl) ?_
        have K22 : ∀ (y10 : Int32) (hf : fX11_takesStretch_J66 a1 a3 y3 f9 y10 = some out) (H : Heap) (locs : List Loc) (ls : Array Slot), va_P (xsD X) vwCl (wM X mThrown mWorld mImage mDraft mEarlier mRemembered mHasImage mIsLaid mOne f9 mShare mX mY mD mEventX mEventY mEventD mEvents mCrossingOf mBundle mEventOf mDegree mFrom mTo mCrossings mEdges mMet mUpper mLower mTape mTaped mPoint mEnd mBegin mFaultAt mFive mTold mActs mFar mViews mHullX mHullY mEndX mEndY mHeightUp mHeightLow mMeets mMeetsOf Rw) H → va_D (xsF X) (wM X mThrown mWorld mImage mDraft mEarlier mRemembered mHasImage mIsLaid mOne f9 mShare mX mY mD mEventX mEventY mEventD mEvents mCrossingOf mBundle mEventOf mDegree mFrom mTo mCrossings mEdges mMet mUpper mLower mTape mTaped mPoint mEnd mBegin mFaultAt mFive mTold mActs mFar mViews mHullX mHullY mEndX mEndY mHeightUp mHeightLow mMeets mMeetsOf Rw) → va_S (xsF X) s.heap H locs → lv_has ls 6 [(0, .ref (xsA X 100)), (2, .int a1), (4, .int a3), (5, .int y3)] → W p l e { frames := 1, cells := 0, slots := 0, locals := 23 } s m ([.ref (xsA X 100), .int a0, .int a1, .int a2, .int a3] : List Value).toArray below meth c H locs 0 0 (MQ below Qq ([.ref (xsA X 100), .int a0, .int a1, .int a2, .int a3] : List Value).toArray s 0 0 (xsF X)) (F0 m 66 ls [.int y10, .int (2 : Int32), .ref (xsA X 106)]) := by
          intro y10 hf H locs ls hP hD hS hl
          unfold fX11_takesStretch_J66 at hf
          replace hf := xsCk_use hf
          obtain ⟨h11, hf⟩ := hf
          refine xs_mTwo C hP hD hS h11 dX11_takesStretch_66 (fun f12 ef12 H locs hP hD hS => ?_)
          replace hf := xsLt_use ef12 hf
          refine lv_aload_n hx hb dX11_takesStretch_67 rfl (lv_at hl 0 rfl) ?_
          refine xg_X11_29 C hP dX11_takesStretch_68 ?_
          refine lv_iconst (v := (3 : Int32)) hx hb dX11_takesStretch_71 (by decide) ?_
          refine lv_iload hx hb dX11_takesStretch_72 (lv_at hl 3 rfl) ?_
          have K18 : ∀ (y13 : Int32) (hf : fX11_takesStretch_J83 f12 y13 = some out) (H : Heap) (locs : List Loc) (ls : Array Slot), va_P (xsD X) vwCl (wM X mThrown mWorld mImage mDraft mEarlier mRemembered mHasImage mIsLaid mOne f12 mShare mX mY mD mEventX mEventY mEventD mEvents mCrossingOf mBundle mEventOf mDegree mFrom mTo mCrossings mEdges mMet mUpper mLower mTape mTaped mPoint mEnd mBegin mFaultAt mFive mTold mActs mFar mViews mHullX mHullY mEndX mEndY mHeightUp mHeightLow mMeets mMeetsOf Rw) H → va_D (xsF X) (wM X mThrown mWorld mImage mDraft mEarlier mRemembered mHasImage mIsLaid mOne f12 mShare mX mY mD mEventX mEventY mEventD mEvents mCrossingOf mBundle mEventOf mDegree mFrom mTo mCrossings mEdges mMet mUpper mLower mTape mTaped mPoint mEnd mBegin mFaultAt mFive mTold mActs mFar mViews mHullX mHullY mEndX mEndY mHeightUp mHeightLow mMeets mMeetsOf Rw) → va_S (xsF X) s.heap H locs → lv_has ls 6 [] → W p l e { frames := 1, cells := 0, slots := 0, locals := 23 } s m ([.ref (xsA X 100), .int a0, .int a1, .int a2, .int a3] : List Value).toArray below meth c H locs 0 0 (MQ below Qq ([.ref (xsA X 100), .int a0, .int a1, .int a2, .int a3] : List Value).toArray s 0 0 (xsF X)) (F0 m 83 ls [.int y13, .int (3 : Int32), .ref (xsA X 106)]) := by
            intro y13 hf H locs ls hP hD hS hl
            unfold fX11_takesStretch_J83 at hf
            replace hf := xsCk_use hf
            obtain ⟨h14, hf⟩ := hf
            refine xs_mTwo C hP hD hS h14 dX11_takesStretch_83 (fun f15 ef15 H locs hP hD hS => ?_)
            replace hf := xsLt_use ef15 hf
            have ho := Option.some.inj hf
            subst ho
            rw [hQq]
            exact xs_vret C hr hlk hP hD hS dX11_takesStretch_84
          replace hf := xsBd_use hf
          obtain ⟨v16, hf, hk17⟩ := hf
          refine lv_if_eq (tgt := 82) hx hb dX11_takesStretch_74 (by decide) (fun c19 => ?_) (fun c19 => ?_)
          · replace hf := xsBr_t c19 hf
            refine lv_iload_n hx hb dX11_takesStretch_82 rfl (lv_at hl 1 rfl) ?_
            have ev := Option.some.inj hf
            subst ev
            exact K18 a1 hk17 H locs ls hP hD hS (lv_sub hl [] rfl)
          · replace hf := xsBr_f c19 hf
            refine lv_iload hx hb dX11_takesStretch_77 (lv_at hl 2 rfl) ?_
            refine lv_goto (tgt := 83) hx hb dX11_takesStretch_79 (by decide) ?_
            have ev := Option.some.inj hf
            subst ev
            exact K18 a3 hk17 H locs ls hP hD hS (lv_sub hl [] rfl)
        replace hf := xsBd_use hf
        obtain ⟨v20, hf, hk21⟩ := hf
        refine lv_if_eq (tgt := 65) hx hb dX11_takesStretch_58 (by decide) (fun c23 => ?_) (fun c23 => ?_)
        · replace hf := xsBr_t c23 hf
          refine lv_iload_n hx hb dX11_takesStretch_65 rfl (lv_at hl 1 rfl) ?_
          have ev := Option.some.inj hf
          subst ev
          exact K22 a0 hk21 H locs ls hP hD hS (lv_sub hl [0, 2, 4, 5] rfl)
        · replace hf := xsBr_f c23 hf
          refine lv_iload_n hx hb dX11_takesStretch_61 rfl (lv_at hl 3 rfl) ?_
          refine lv_goto (tgt := 66) hx hb dX11_takesStretch_62 (by decide) ?_
          have ev := Option.some.inj hf
          subst ev
          exact K22 a2 hk21 H locs ls hP hD hS (lv_sub hl [0, 2, 4, 5] rfl)
      replace hf := xsBd_use hf
      obtain ⟨v24, hf, hk25⟩ := hf
      refine lv_if_eq (tgt := 48) hx hb dX11_takesStretch_41 (by decide) (fun c27 => ?_) (fun c27 => ?_)
      · replace hf := xsBr_t c27 hf
        refine lv_iload hx hb dX11_takesStretch_48 (lv_at hl 4 rfl) ?_
        have ev := Option.some.inj hf
        subst ev
        exact K26 a3 hk25 H locs ls hP hD hS (lv_sub hl [0, 1, 2, 3, 4, 5] rfl)
      · replace hf := xsBr_f c27 hf
        refine lv_iload_n hx hb dX11_takesStretch_44 rfl (lv_at hl 2 rfl) ?_
        refine lv_goto (tgt := 50) hx hb dX11_takesStretch_45 (by decide) ?_
        have ev := Option.some.inj hf
        subst ev
        exact K26 a1 hk25 H locs ls hP hD hS (lv_sub hl [0, 1, 2, 3, 4, 5] rfl)
    replace hf := xsBd_use hf
    obtain ⟨v28, hf, hk29⟩ := hf
    refine lv_if_eq (tgt := 32) hx hb dX11_takesStretch_25 (by decide) (fun c31 => ?_) (fun c31 => ?_)
    · replace hf := xsBr_t c31 hf
      refine lv_iload_n hx hb dX11_takesStretch_32 rfl (lv_at hl 4 rfl) ?_
      have ev := Option.some.inj hf
      subst ev
      exact K30 a2 hk29 H locs ls hP hD hS (lv_sub hl [1, 2, 3, 4, 5, 0] rfl)
    · replace hf := xsBr_f c31 hf
      refine lv_iload_n hx hb dX11_takesStretch_28 rfl (lv_at hl 2 rfl) ?_
      refine lv_goto (tgt := 33) hx hb dX11_takesStretch_29 (by decide) ?_
      have ev := Option.some.inj hf
      subst ev
      exact K30 a0 hk29 H locs ls hP hD hS (lv_sub hl [1, 2, 3, 4, 5, 0] rfl)
  replace hf := xsBd_use hf
  obtain ⟨v32, hf, hk33⟩ := hf
  refine lv_if_ne (tgt := 15) hx hb dX11_takesStretch_8 (by decide) (fun c35 => ?_) (fun c35 => ?_)
  · replace hf := xsBr_f c35 hf
    refine lv_iconst (v := (0 : Int32)) hx hb dX11_takesStretch_15 (by decide) ?_
    have ev := Option.some.inj hf
    subst ev
    exact K34 (0 : Int32) hk33 H locs ls hP hD hS (lv_sub hl [0, 1, 2, 3, 4] rfl)
  · replace hf := xsBr_t c35 hf
    refine lv_iconst (v := (1 : Int32)) hx hb dX11_takesStretch_11 (by decide) ?_
    refine lv_goto (tgt := 16) hx hb dX11_takesStretch_12 (by decide) ?_
    have ev := Option.some.inj hf
    subst ev
    exact K34 (1 : Int32) hk33 H locs ls hP hD hS (lv_sub hl [0, 1, 2, 3, 4] rfl)
set_option maxRecDepth 100000 in
set_option maxHeartbeats 8000000 in
theorem mX11_isOn_v2 (l : Launch) {X : xsX} {mThrown mRemembered mHasImage mIsLaid mEvents mCrossings mEdges mTaped mPoint mEnd mBegin mFaultAt mActs : Int32} {mWorld mImage mDraft mEarlier mOne mTwo mShare mCrossingOf mBundle mEventOf mDegree mFrom mTo mMet mTape mFive mTold mFar mViews mHullX mHullY mEndX mEndY mMeets mMeetsOf : Nat → Int32} {mX mY mD mHeightUp mHeightLow : Int64} {mEventX mEventY mEventD mUpper mLower : Nat → Int64} {Rw : va_W} {a1 : Int64} {a2 : Int64} {a3 : Int64} {out : Int32} (hf : fX11_isOn_v2 mShare a1 a2 a3 = some out) : Met l yX11_isOn (xsWs yX11_isOn cX11_isOn 11 (some .boolean)) { frames := 1, cells := 0, slots := 0, locals := 25 } (xsP X (wM X mThrown mWorld mImage mDraft mEarlier mRemembered mHasImage mIsLaid mOne mTwo mShare mX mY mD mEventX mEventY mEventD mEvents mCrossingOf mBundle mEventOf mDegree mFrom mTo mCrossings mEdges mMet mUpper mLower mTape mTaped mPoint mEnd mBegin mFaultAt mFive mTold mActs mFar mViews mHullX mHullY mEndX mEndY mHeightUp mHeightLow mMeets mMeetsOf Rw) [.ref (xsA X 107), .long a1, .long a2, .long a3]) (xsQi X out (wM X mThrown mWorld mImage mDraft mEarlier mRemembered mHasImage mIsLaid mOne mTwo mShare mX mY mD mEventX mEventY mEventD mEvents mCrossingOf mBundle mEventOf mDegree mFrom mTo mCrossings mEdges mMet mUpper mLower mTape mTaped mPoint mEnd mBegin mFaultAt mFive mTold mActs mFar mViews mHullX mHullY mEndX mEndY mHeightUp mHeightLow mMeets mMeetsOf Rw)) 0 0 (xsF X) := by
  refine xs_meth RX11 (by decide) rfl (Nat.le_of_ble_eq_true rfl) ?_
  intro p e s m below meth c ls H locs C hP hD hS hr hlk hl
  have hx := C.1
  have hb := C.2.1
  have hl : lv_has ls 11 [(0, .ref (xsA X 107)), (1, .long a1), (3, .long a2), (5, .long a3)] := hl
  obtain ⟨Qq, hQq⟩ : ∃ Qq, Qq = xsQi X out (wM X mThrown mWorld mImage mDraft mEarlier mRemembered mHasImage mIsLaid mOne mTwo mShare mX mY mD mEventX mEventY mEventD mEvents mCrossingOf mBundle mEventOf mDegree mFrom mTo mCrossings mEdges mMet mUpper mLower mTape mTaped mPoint mEnd mBegin mFaultAt mFive mTold mActs mFar mViews mHullX mHullY mEndX mEndY mHeightUp mHeightLow mMeets mMeetsOf Rw) := ⟨_, rfl⟩
  rw [← hQq]
  unfold fX11_isOn_v2 at hf
  refine lv_aload_n hx hb dX11_isOn_0 rfl (lv_at hl 0 rfl) ?_
  refine lv_iconst (v := (2 : Int32)) hx hb dX11_isOn_1 (by decide) ?_
  replace hf := xsCk_use hf
  obtain ⟨h1, hf⟩ := hf
  refine xl_mShare C hP h1 dX11_isOn_2 ?_
  refine lv_aload_n hx hb dX11_isOn_3 rfl (lv_at hl 0 rfl) ?_
  refine lv_iconst (v := (0 : Int32)) hx hb dX11_isOn_4 (by decide) ?_
  replace hf := xsCk_use hf
  obtain ⟨h2, hf⟩ := hf
  refine xl_mShare C hP h2 dX11_isOn_5 ?_
  refine lv_isub hx hb dX11_isOn_6 ?_
  refine lv_i2l hx hb dX11_isOn_7 rfl ?_
  refine lv_topl (fun x3 ex3 => ?_)
  replace hf := xsLt_use ex3 hf
  refine lv_lstore (lv' := [(7, .long x3), (0, .ref (xsA X 107)), (1, .long a1), (3, .long a2), (5, .long a3)]) hx hb dX11_isOn_8 hl (by decide) rfl (fun ls hl => ?_)
  refine lv_aload_n hx hb dX11_isOn_10 rfl (lv_at hl 1 rfl) ?_
  refine lv_iconst (v := (3 : Int32)) hx hb dX11_isOn_11 (by decide) ?_
  replace hf := xsCk_use hf
  obtain ⟨h4, hf⟩ := hf
  refine xl_mShare C hP h4 dX11_isOn_12 ?_
  refine lv_aload_n hx hb dX11_isOn_13 rfl (lv_at hl 1 rfl) ?_
  refine lv_iconst (v := (1 : Int32)) hx hb dX11_isOn_14 (by decide) ?_
  replace hf := xsCk_use hf
  obtain ⟨h5, hf⟩ := hf
  refine xl_mShare C hP h5 dX11_isOn_15 ?_
  refine lv_isub hx hb dX11_isOn_16 ?_
  refine lv_i2l hx hb dX11_isOn_17 rfl ?_
  refine lv_topl (fun x6 ex6 => ?_)
  replace hf := xsLt_use ex6 hf
  refine lv_lstore (lv' := [(9, .long x6), (7, .long x3), (0, .ref (xsA X 107)), (1, .long a1), (3, .long a2), (5, .long a3)]) hx hb dX11_isOn_18 hl (by decide) rfl (fun ls hl => ?_)
  refine lv_lload_n hx hb dX11_isOn_20 rfl (lv_at hl 3 rfl) ?_
  refine lv_aload_n hx hb dX11_isOn_21 rfl (lv_at hl 2 rfl) ?_
  refine lv_iconst (v := (0 : Int32)) hx hb dX11_isOn_22 (by decide) ?_
  replace hf := xsCk_use hf
  obtain ⟨h7, hf⟩ := hf
  refine xl_mShare C hP h7 dX11_isOn_23 ?_
  refine lv_i2l hx hb dX11_isOn_24 rfl ?_
  refine lv_lload hx hb dX11_isOn_25 (lv_at hl 5 rfl) ?_
  refine lv_lmul hx hb dX11_isOn_27 ?_
  refine lv_lsub hx hb dX11_isOn_28 ?_
  refine lv_lload hx hb dX11_isOn_29 (lv_at hl 0 rfl) ?_
  refine lv_lmul hx hb dX11_isOn_31 ?_
  refine lv_lload_n hx hb dX11_isOn_32 rfl (lv_at hl 4 rfl) ?_
  refine lv_aload_n hx hb dX11_isOn_33 rfl (lv_at hl 2 rfl) ?_
  refine lv_iconst (v := (1 : Int32)) hx hb dX11_isOn_34 (by decide) ?_
  replace hf := xsCk_use hf
  obtain ⟨h8, hf⟩ := hf
  refine xl_mShare C hP h8 dX11_isOn_35 ?_
  refine lv_i2l hx hb dX11_isOn_36 rfl ?_
  refine lv_lload hx hb dX11_isOn_37 (lv_at hl 5 rfl) ?_
  refine lv_lmul hx hb dX11_isOn_39 ?_
  refine lv_lsub hx hb dX11_isOn_40 ?_
  refine lv_lload hx hb dX11_isOn_41 (lv_at hl 1 rfl) ?_
  refine lv_lmul hx hb dX11_isOn_43 ?_
  refine xs_lcmp_eq (tgt := 50) C dX11_isOn_44 dX11_isOn_45 (by decide) (fun c21 => ?_) (fun c21 => ?_)
  · replace hf := xsBr_t c21 hf
    refine lv_lload_n hx hb dX11_isOn_50 rfl (lv_at hl 3 rfl) ?_
    refine lv_aload_n hx hb dX11_isOn_51 rfl (lv_at hl 2 rfl) ?_
    refine lv_iconst (v := (0 : Int32)) hx hb dX11_isOn_52 (by decide) ?_
    replace hf := xsCk_use hf
    obtain ⟨h9, hf⟩ := hf
    refine xl_mShare C hP h9 dX11_isOn_53 ?_
    refine lv_i2l hx hb dX11_isOn_54 rfl ?_
    refine lv_lload hx hb dX11_isOn_55 (lv_at hl 5 rfl) ?_
    refine lv_lmul hx hb dX11_isOn_57 ?_
    refine lv_aload_n hx hb dX11_isOn_58 rfl (lv_at hl 2 rfl) ?_
    refine lv_iconst (v := (2 : Int32)) hx hb dX11_isOn_59 (by decide) ?_
    replace hf := xsCk_use hf
    obtain ⟨h10, hf⟩ := hf
    refine xl_mShare C hP h10 dX11_isOn_60 ?_
    refine lv_i2l hx hb dX11_isOn_61 rfl ?_
    refine lv_lload hx hb dX11_isOn_62 (lv_at hl 5 rfl) ?_
    refine lv_lmul hx hb dX11_isOn_64 ?_
    replace hf := xsBd_use hf
    obtain ⟨o11, h12, hf⟩ := hf
    refine xs_calli hS (xs_runS (As := [.long a1, .long (((mShare (0 : Int32).toNatClampNeg).toInt64) * a3), .long (((mShare (2 : Int32).toNatClampNeg).toInt64) * a3)]) C (mX11_in l  h12) w_1573 w_1574 w_115 w_1575 hd_X11_in ⟨rfl, rfl, Nat.le_of_ble_eq_true rfl, Nat.le_of_ble_eq_true rfl, Nat.zero_le _, Nat.zero_le _⟩ hP hD hS hl.1 rfl (Nat.le_of_ble_eq_true rfl) dX11_isOn_65) (fun H locs hP hD hS => ?_)
    refine lv_if_eq (tgt := 108) hx hb dX11_isOn_68 (by decide) (fun c20 => ?_) (fun c20 => ?_)
    · replace hf := xsBr_t c20 hf
      refine lv_iconst (v := (0 : Int32)) hx hb dX11_isOn_108 (by decide) ?_
      have ho := Option.some.inj hf
      subst ho
      rw [hQq]
      exact xs_zret C hr hlk xsB_0 hP hD hS dX11_isOn_109
    · replace hf := xsBr_f c20 hf
      refine lv_lload_n hx hb dX11_isOn_71 rfl (lv_at hl 4 rfl) ?_
      refine lv_aload_n hx hb dX11_isOn_72 rfl (lv_at hl 2 rfl) ?_
      refine lv_iconst (v := (1 : Int32)) hx hb dX11_isOn_73 (by decide) ?_
      replace hf := xsCk_use hf
      obtain ⟨h13, hf⟩ := hf
      refine xl_mShare C hP h13 dX11_isOn_74 ?_
      refine lv_aload_n hx hb dX11_isOn_75 rfl (lv_at hl 2 rfl) ?_
      refine lv_iconst (v := (3 : Int32)) hx hb dX11_isOn_76 (by decide) ?_
      replace hf := xsCk_use hf
      obtain ⟨h14, hf⟩ := hf
      refine xl_mShare C hP h14 dX11_isOn_77 ?_
      refine va_mmin hx hb (C.2.2.1.trans hl.1.symm) C.2.2.2.1 (xs_kts C _ w_1675) (xs_kts C _ w_525) (xs_kts C _ w_125) (xs_kts C _ w_526) (Nat.le_of_ble_eq_true rfl) (Nat.le_of_ble_eq_true rfl) (Nat.zero_le _) (Nat.zero_le _) dX11_isOn_78 ?_
      refine lv_i2l hx hb dX11_isOn_81 rfl ?_
      refine lv_lload hx hb dX11_isOn_82 (lv_at hl 5 rfl) ?_
      refine lv_lmul hx hb dX11_isOn_84 ?_
      refine lv_aload_n hx hb dX11_isOn_85 rfl (lv_at hl 2 rfl) ?_
      refine lv_iconst (v := (1 : Int32)) hx hb dX11_isOn_86 (by decide) ?_
      replace hf := xsCk_use hf
      obtain ⟨h15, hf⟩ := hf
      refine xl_mShare C hP h15 dX11_isOn_87 ?_
      refine lv_aload_n hx hb dX11_isOn_88 rfl (lv_at hl 2 rfl) ?_
      refine lv_iconst (v := (3 : Int32)) hx hb dX11_isOn_89 (by decide) ?_
      replace hf := xsCk_use hf
      obtain ⟨h16, hf⟩ := hf
      refine xl_mShare C hP h16 dX11_isOn_90 ?_
      refine va_mmax hx hb (C.2.2.1.trans hl.1.symm) C.2.2.2.1 (xs_kts C _ w_1676) (xs_kts C _ w_697) (xs_kts C _ w_125) (xs_kts C _ w_698) (Nat.le_of_ble_eq_true rfl) (Nat.le_of_ble_eq_true rfl) (Nat.zero_le _) (Nat.zero_le _) dX11_isOn_91 ?_
      refine lv_i2l hx hb dX11_isOn_94 rfl ?_
      refine lv_lload hx hb dX11_isOn_95 (lv_at hl 5 rfl) ?_
      refine lv_lmul hx hb dX11_isOn_97 ?_
      replace hf := xsBd_use hf
      obtain ⟨o17, h18, hf⟩ := hf
      refine xs_calli hS (xs_runS (As := [.long a2, .long (((if (mShare (3 : Int32).toNatClampNeg) < (mShare (1 : Int32).toNatClampNeg) then (mShare (3 : Int32).toNatClampNeg) else (mShare (1 : Int32).toNatClampNeg)).toInt64) * a3), .long (((if (mShare (1 : Int32).toNatClampNeg) < (mShare (3 : Int32).toNatClampNeg) then (mShare (3 : Int32).toNatClampNeg) else (mShare (1 : Int32).toNatClampNeg)).toInt64) * a3)]) C (mX11_in l  h18) w_1573 w_1574 w_115 w_1575 hd_X11_in ⟨rfl, rfl, Nat.le_of_ble_eq_true rfl, Nat.le_of_ble_eq_true rfl, Nat.zero_le _, Nat.zero_le _⟩ hP hD hS hl.1 rfl (Nat.le_of_ble_eq_true rfl) dX11_isOn_98) (fun H locs hP hD hS => ?_)
      refine lv_if_eq (tgt := 108) hx hb dX11_isOn_101 (by decide) (fun c19 => ?_) (fun c19 => ?_)
      · replace hf := xsBr_t c19 hf
        refine lv_iconst (v := (0 : Int32)) hx hb dX11_isOn_108 (by decide) ?_
        have ho := Option.some.inj hf
        subst ho
        rw [hQq]
        exact xs_zret C hr hlk xsB_0 hP hD hS dX11_isOn_109
      · replace hf := xsBr_f c19 hf
        refine lv_iconst (v := (1 : Int32)) hx hb dX11_isOn_104 (by decide) ?_
        refine lv_goto (tgt := 109) hx hb dX11_isOn_105 (by decide) ?_
        have ho := Option.some.inj hf
        subst ho
        rw [hQq]
        exact xs_zret C hr hlk xsB_1 hP hD hS dX11_isOn_109
  · replace hf := xsBr_f c21 hf
    refine lv_iconst (v := (0 : Int32)) hx hb dX11_isOn_48 (by decide) ?_
    have ho := Option.some.inj hf
    subst ho
    rw [hQq]
    exact xs_zret C hr hlk xsB_0 hP hD hS dX11_isOn_49
set_option maxRecDepth 100000 in
set_option maxHeartbeats 8000000 in
theorem mX11_takesNearer (l : Launch) {X : xsX} {mThrown mRemembered mHasImage mIsLaid mEvents mCrossings mEdges mTaped mPoint mEnd mBegin mFaultAt mActs : Int32} {mWorld mImage mDraft mEarlier mOne mTwo mShare mCrossingOf mBundle mEventOf mDegree mFrom mTo mMet mTape mFive mTold mFar mViews mHullX mHullY mEndX mEndY mMeets mMeetsOf : Nat → Int32} {mX mY mD mHeightUp mHeightLow : Int64} {mEventX mEventY mEventD mUpper mLower : Nat → Int64} {Rw : va_W} {a0 : Int32} {a1 : Int32} {out : Int64 × Int64 × Int64} (hf : fX11_takesNearer mShare mX mY mD a0 a1 = some out) : Met l yX11_takesNearer (xsWs yX11_takesNearer cX11_takesNearer 9 none) { frames := 2, cells := 0, slots := 0, locals := 57 } (xsP X (wM X mThrown mWorld mImage mDraft mEarlier mRemembered mHasImage mIsLaid mOne mTwo mShare mX mY mD mEventX mEventY mEventD mEvents mCrossingOf mBundle mEventOf mDegree mFrom mTo mCrossings mEdges mMet mUpper mLower mTape mTaped mPoint mEnd mBegin mFaultAt mFive mTold mActs mFar mViews mHullX mHullY mEndX mEndY mHeightUp mHeightLow mMeets mMeetsOf Rw) [.ref (xsA X 100), .int a0, .int a1]) (xsQv X (wM X mThrown mWorld mImage mDraft mEarlier mRemembered mHasImage mIsLaid mOne mTwo mShare out.1 out.2.1 out.2.2 mEventX mEventY mEventD mEvents mCrossingOf mBundle mEventOf mDegree mFrom mTo mCrossings mEdges mMet mUpper mLower mTape mTaped mPoint mEnd mBegin mFaultAt mFive mTold mActs mFar mViews mHullX mHullY mEndX mEndY mHeightUp mHeightLow mMeets mMeetsOf Rw)) 0 0 (xsF X) := by
  refine xs_meth RX11 (by decide) rfl (Nat.le_of_ble_eq_true rfl) ?_
  intro p e s m below meth c ls H locs C hP hD hS hr hlk hl
  have hx := C.1
  have hb := C.2.1
  have hl : lv_has ls 9 [(0, .ref (xsA X 100)), (1, .int a0), (2, .int a1)] := hl
  obtain ⟨Qq, hQq⟩ : ∃ Qq, Qq = xsQv X (wM X mThrown mWorld mImage mDraft mEarlier mRemembered mHasImage mIsLaid mOne mTwo mShare out.1 out.2.1 out.2.2 mEventX mEventY mEventD mEvents mCrossingOf mBundle mEventOf mDegree mFrom mTo mCrossings mEdges mMet mUpper mLower mTape mTaped mPoint mEnd mBegin mFaultAt mFive mTold mActs mFar mViews mHullX mHullY mEndX mEndY mHeightUp mHeightLow mMeets mMeetsOf Rw) := ⟨_, rfl⟩
  rw [← hQq]
  unfold fX11_takesNearer at hf
  refine lv_aload_n hx hb dX11_takesNearer_0 rfl (lv_at hl 0 rfl) ?_
  refine xg_X11_32 C hP dX11_takesNearer_1 ?_
  refine lv_iconst (v := (0 : Int32)) hx hb dX11_takesNearer_4 (by decide) ?_
  replace hf := xsCk_use hf
  obtain ⟨h1, hf⟩ := hf
  refine xl_mShare C hP h1 dX11_takesNearer_5 ?_
  refine lv_i2l hx hb dX11_takesNearer_6 rfl ?_
  refine lv_iload_n hx hb dX11_takesNearer_7 rfl (lv_at hl 1 rfl) ?_
  refine lv_i2l hx hb dX11_takesNearer_8 rfl ?_
  refine lv_lsub hx hb dX11_takesNearer_9 ?_
  refine va_mabs_long hx hb (C.2.2.1.trans hl.1.symm) C.2.2.2.1 (xs_kts C _ w_1924) (xs_kts C _ w_763) (xs_kts C _ w_125) (xs_kts C _ w_764) (Nat.le_of_ble_eq_true rfl) (Nat.le_of_ble_eq_true rfl) (Nat.zero_le _) (Nat.zero_le _) dX11_takesNearer_10 ?_
  refine lv_aload_n hx hb dX11_takesNearer_13 rfl (lv_at hl 0 rfl) ?_
  refine xg_X11_32 C hP dX11_takesNearer_14 ?_
  refine lv_iconst (v := (1 : Int32)) hx hb dX11_takesNearer_17 (by decide) ?_
  replace hf := xsCk_use hf
  obtain ⟨h2, hf⟩ := hf
  refine xl_mShare C hP h2 dX11_takesNearer_18 ?_
  refine lv_i2l hx hb dX11_takesNearer_19 rfl ?_
  refine lv_iload_n hx hb dX11_takesNearer_20 rfl (lv_at hl 2 rfl) ?_
  refine lv_i2l hx hb dX11_takesNearer_21 rfl ?_
  refine lv_lsub hx hb dX11_takesNearer_22 ?_
  refine va_mabs_long hx hb (C.2.2.1.trans hl.1.symm) C.2.2.2.1 (xs_kts C _ w_1924) (xs_kts C _ w_763) (xs_kts C _ w_125) (xs_kts C _ w_764) (Nat.le_of_ble_eq_true rfl) (Nat.le_of_ble_eq_true rfl) (Nat.zero_le _) (Nat.zero_le _) dX11_takesNearer_23 ?_
  refine lv_ladd hx hb dX11_takesNearer_26 ?_
  refine lv_topl (fun x3 ex3 => ?_)
  replace hf := xsLt_use ex3 hf
  refine lv_lstore_n (lv' := [(3, .long x3), (0, .ref (xsA X 100)), (1, .int a0), (2, .int a1)]) hx hb dX11_takesNearer_27 rfl hl (by decide) rfl (fun ls hl => ?_)
  refine lv_aload_n hx hb dX11_takesNearer_28 rfl (lv_at hl 1 rfl) ?_
  refine xg_X11_32 C hP dX11_takesNearer_29 ?_
  refine lv_iconst (v := (2 : Int32)) hx hb dX11_takesNearer_32 (by decide) ?_
  replace hf := xsCk_use hf
  obtain ⟨h4, hf⟩ := hf
  refine xl_mShare C hP h4 dX11_takesNearer_33 ?_
  refine lv_i2l hx hb dX11_takesNearer_34 rfl ?_
  refine lv_iload_n hx hb dX11_takesNearer_35 rfl (lv_at hl 2 rfl) ?_
  refine lv_i2l hx hb dX11_takesNearer_36 rfl ?_
  refine lv_lsub hx hb dX11_takesNearer_37 ?_
  refine va_mabs_long hx hb (C.2.2.1.trans hl.1.symm) C.2.2.2.1 (xs_kts C _ w_1924) (xs_kts C _ w_763) (xs_kts C _ w_125) (xs_kts C _ w_764) (Nat.le_of_ble_eq_true rfl) (Nat.le_of_ble_eq_true rfl) (Nat.zero_le _) (Nat.zero_le _) dX11_takesNearer_38 ?_
  refine lv_aload_n hx hb dX11_takesNearer_41 rfl (lv_at hl 1 rfl) ?_
  refine xg_X11_32 C hP dX11_takesNearer_42 ?_
  refine lv_iconst (v := (3 : Int32)) hx hb dX11_takesNearer_45 (by decide) ?_
  replace hf := xsCk_use hf
  obtain ⟨h5, hf⟩ := hf
  refine xl_mShare C hP h5 dX11_takesNearer_46 ?_
  refine lv_i2l hx hb dX11_takesNearer_47 rfl ?_
  refine lv_iload_n hx hb dX11_takesNearer_48 rfl (lv_at hl 3 rfl) ?_
  refine lv_i2l hx hb dX11_takesNearer_49 rfl ?_
  refine lv_lsub hx hb dX11_takesNearer_50 ?_
  refine va_mabs_long hx hb (C.2.2.1.trans hl.1.symm) C.2.2.2.1 (xs_kts C _ w_1924) (xs_kts C _ w_763) (xs_kts C _ w_125) (xs_kts C _ w_764) (Nat.le_of_ble_eq_true rfl) (Nat.le_of_ble_eq_true rfl) (Nat.zero_le _) (Nat.zero_le _) dX11_takesNearer_51 ?_
  refine lv_ladd hx hb dX11_takesNearer_54 ?_
  refine lv_topl (fun x6 ex6 => ?_)
  replace hf := xsLt_use ex6 hf
  refine lv_lstore (lv' := [(5, .long x6), (3, .long x3), (0, .ref (xsA X 100)), (1, .int a0), (2, .int a1)]) hx hb dX11_takesNearer_55 hl (by decide) rfl (fun ls hl => ?_)
  refine lv_lload_n hx hb dX11_takesNearer_57 rfl (lv_at hl 1 rfl) ?_
  refine lv_lload hx hb dX11_takesNearer_58 (lv_at hl 0 rfl) ?_
  have K38 : ∀ (y7 : Int32) (hf : fX11_takesNearer_J69 mShare mX mY mD a0 a1 y7 = some out) (H : Heap) (locs : List Loc) (ls : Array Slot), va_P (xsD X) vwCl (wM X mThrown mWorld mImage mDraft mEarlier mRemembered mHasImage mIsLaid mOne mTwo mShare mX mY mD mEventX mEventY mEventD mEvents mCrossingOf mBundle mEventOf mDegree mFrom mTo mCrossings mEdges mMet mUpper mLower mTape mTaped mPoint mEnd mBegin mFaultAt mFive mTold mActs mFar mViews mHullX mHullY mEndX mEndY mHeightUp mHeightLow mMeets mMeetsOf Rw) H → va_D (xsF X) (wM X mThrown mWorld mImage mDraft mEarlier mRemembered mHasImage mIsLaid mOne mTwo mShare mX mY mD mEventX mEventY mEventD mEvents mCrossingOf mBundle mEventOf mDegree mFrom mTo mCrossings mEdges mMet mUpper mLower mTape mTaped mPoint mEnd mBegin mFaultAt mFive mTold mActs mFar mViews mHullX mHullY mEndX mEndY mHeightUp mHeightLow mMeets mMeetsOf Rw) → va_S (xsF X) s.heap H locs → lv_has ls 9 [(0, .ref (xsA X 100)), (1, .int a0), (2, .int a1)] → W p l e { frames := 2, cells := 0, slots := 0, locals := 57 } s m ([.ref (xsA X 100), .int a0, .int a1] : List Value).toArray below meth c H locs 0 0 (MQ below Qq ([.ref (xsA X 100), .int a0, .int a1] : List Value).toArray s 0 0 (xsF X)) (F0 m 69 ls [.int y7]) := by
    intro y7 hf H locs ls hP hD hS hl
    unfold fX11_takesNearer_J69 at hf
    refine lv_istore (lv' := [(7, .int y7), (0, .ref (xsA X 100)), (1, .int a0), (2, .int a1)]) hx hb dX11_takesNearer_69 hl (by decide) rfl (fun ls hl => ?_)
    refine lv_aload_n hx hb dX11_takesNearer_71 rfl (lv_at hl 1 rfl) ?_
    refine xg_X11_32 C hP dX11_takesNearer_72 ?_
    refine lv_iload_n hx hb dX11_takesNearer_75 rfl (lv_at hl 2 rfl) ?_
    refine lv_i2l hx hb dX11_takesNearer_76 rfl ?_
    refine lv_iload_n hx hb dX11_takesNearer_77 rfl (lv_at hl 3 rfl) ?_
    refine lv_i2l hx hb dX11_takesNearer_78 rfl ?_
    refine lv_lconst (v := (1 : Int64)) hx hb dX11_takesNearer_79 (by decide) ?_
    replace hf := xsBd_use hf
    obtain ⟨o8, h9, hf⟩ := hf
    refine xs_calli hS (xs_runS (As := [.ref (xsA X 107), .long a0.toInt64, .long a1.toInt64, .long (1 : Int64)]) C (mX11_isOn_v2 l  h9) w_1672 w_1673 w_115 w_1674 hd_X11_isOn ⟨rfl, rfl, Nat.le_of_ble_eq_true rfl, Nat.le_of_ble_eq_true rfl, Nat.zero_le _, Nat.zero_le _⟩ hP hD hS hl.1 rfl (Nat.le_of_ble_eq_true rfl) dX11_takesNearer_80) (fun H locs hP hD hS => ?_)
    have K16 : ∀ (y10 : Int32) (y11 : Int64) (y12 : Int64) (y13 : Int64) (hf : fX11_takesNearer_J147 y10 y11 y12 y13 = some out) (H : Heap) (locs : List Loc) (ls : Array Slot), va_P (xsD X) vwCl (wM X mThrown mWorld mImage mDraft mEarlier mRemembered mHasImage mIsLaid mOne mTwo mShare y11 y12 y13 mEventX mEventY mEventD mEvents mCrossingOf mBundle mEventOf mDegree mFrom mTo mCrossings mEdges mMet mUpper mLower mTape mTaped mPoint mEnd mBegin mFaultAt mFive mTold mActs mFar mViews mHullX mHullY mEndX mEndY mHeightUp mHeightLow mMeets mMeetsOf Rw) H → va_D (xsF X) (wM X mThrown mWorld mImage mDraft mEarlier mRemembered mHasImage mIsLaid mOne mTwo mShare y11 y12 y13 mEventX mEventY mEventD mEvents mCrossingOf mBundle mEventOf mDegree mFrom mTo mCrossings mEdges mMet mUpper mLower mTape mTaped mPoint mEnd mBegin mFaultAt mFive mTold mActs mFar mViews mHullX mHullY mEndX mEndY mHeightUp mHeightLow mMeets mMeetsOf Rw) → va_S (xsF X) s.heap H locs → lv_has ls 9 [] → W p l e { frames := 2, cells := 0, slots := 0, locals := 57 } s m ([.ref (xsA X 100), .int a0, .int a1] : List Value).toArray below meth c H locs 0 0 (MQ below Qq ([.ref (xsA X 100), .int a0, .int a1] : List Value).toArray s 0 0 (xsF X)) (F0 m 147 ls [.int y10]) := by
      intro y10 y11 y12 y13 hf H locs ls hP hD hS hl
      unfold fX11_takesNearer_J147 at hf
      refine lv_istore (lv' := [(8, .int y10)]) hx hb dX11_takesNearer_147 hl (by decide) rfl (fun ls hl => ?_)
      have ho := Option.some.inj hf
      subst ho
      rw [hQq]
      exact xs_vret C hr hlk hP hD hS dX11_takesNearer_149
    replace hf := xsBd_use hf
    obtain ⟨v14, hf, hk15⟩ := hf
    refine lv_if_eq (tgt := 98) hx hb dX11_takesNearer_83 (by decide) (fun c35 => ?_) (fun c35 => ?_)
    · replace hf := xsBr_t c35 hf
      refine lv_aload_n hx hb dX11_takesNearer_98 rfl (lv_at hl 1 rfl) ?_
      refine lv_iload hx hb dX11_takesNearer_99 (lv_at hl 0 rfl) ?_
      have K29 : ∀ (y17 : Int64) (hf : fX11_takesNearer_J121 mShare mX mY mD y7 y17 = some v14) (H : Heap) (locs : List Loc) (ls : Array Slot), va_P (xsD X) vwCl (wM X mThrown mWorld mImage mDraft mEarlier mRemembered mHasImage mIsLaid mOne mTwo mShare mX mY mD mEventX mEventY mEventD mEvents mCrossingOf mBundle mEventOf mDegree mFrom mTo mCrossings mEdges mMet mUpper mLower mTape mTaped mPoint mEnd mBegin mFaultAt mFive mTold mActs mFar mViews mHullX mHullY mEndX mEndY mHeightUp mHeightLow mMeets mMeetsOf Rw) H → va_D (xsF X) (wM X mThrown mWorld mImage mDraft mEarlier mRemembered mHasImage mIsLaid mOne mTwo mShare mX mY mD mEventX mEventY mEventD mEvents mCrossingOf mBundle mEventOf mDegree mFrom mTo mCrossings mEdges mMet mUpper mLower mTape mTaped mPoint mEnd mBegin mFaultAt mFive mTold mActs mFar mViews mHullX mHullY mEndX mEndY mHeightUp mHeightLow mMeets mMeetsOf Rw) → va_S (xsF X) s.heap H locs → lv_has ls 9 [(0, .ref (xsA X 100)), (7, .int y7)] → W p l e { frames := 2, cells := 0, slots := 0, locals := 57 } s m ([.ref (xsA X 100), .int a0, .int a1] : List Value).toArray below meth c H locs 0 0 (MQ below Qq ([.ref (xsA X 100), .int a0, .int a1] : List Value).toArray s 0 0 (xsF X)) (F0 m 121 ls [.long y17, .ref (xsA X 100)]) := by
        intro y17 hf H locs ls hP hD hS hl
        unfold fX11_takesNearer_J121 at hf
        refine lv_iload hx hb dX11_takesNearer_121 (lv_at hl 1 rfl) ?_
        have K23 : ∀ (y18 : Int64) (hf : fX11_takesNearer_J143 mX mY mD y17 y18 = some v14) (H : Heap) (locs : List Loc) (ls : Array Slot), va_P (xsD X) vwCl (wM X mThrown mWorld mImage mDraft mEarlier mRemembered mHasImage mIsLaid mOne mTwo mShare mX mY mD mEventX mEventY mEventD mEvents mCrossingOf mBundle mEventOf mDegree mFrom mTo mCrossings mEdges mMet mUpper mLower mTape mTaped mPoint mEnd mBegin mFaultAt mFive mTold mActs mFar mViews mHullX mHullY mEndX mEndY mHeightUp mHeightLow mMeets mMeetsOf Rw) H → va_D (xsF X) (wM X mThrown mWorld mImage mDraft mEarlier mRemembered mHasImage mIsLaid mOne mTwo mShare mX mY mD mEventX mEventY mEventD mEvents mCrossingOf mBundle mEventOf mDegree mFrom mTo mCrossings mEdges mMet mUpper mLower mTape mTaped mPoint mEnd mBegin mFaultAt mFive mTold mActs mFar mViews mHullX mHullY mEndX mEndY mHeightUp mHeightLow mMeets mMeetsOf Rw) → va_S (xsF X) s.heap H locs → lv_has ls 9 [] → W p l e { frames := 2, cells := 0, slots := 0, locals := 57 } s m ([.ref (xsA X 100), .int a0, .int a1] : List Value).toArray below meth c H locs 0 0 (MQ below Qq ([.ref (xsA X 100), .int a0, .int a1] : List Value).toArray s 0 0 (xsF X)) (F0 m 143 ls [.long y18, .long y17, .ref (xsA X 100)]) := by
          intro y18 hf H locs ls hP hD hS hl
          unfold fX11_takesNearer_J143 at hf
          refine lv_lconst (v := (1 : Int64)) hx hb dX11_takesNearer_143 (by decide) ?_
          replace hf := xsBd_use hf
          obtain ⟨o19, h20, hf⟩ := hf
          refine xs_calli hS (xs_runV (As := [.long y17, .long y18, .long (1 : Int64)]) C (mX11_sharesPoint l  h20) w_1677 w_1679 w_61 w_115 w_1680 hd_X11_sharesPoint ⟨rfl, rfl, Nat.le_of_ble_eq_true rfl, Nat.le_of_ble_eq_true rfl, Nat.zero_le _, Nat.zero_le _⟩ hP hD hS lk_X11 rfl hl.1 rfl (Nat.le_of_ble_eq_true rfl) dX11_takesNearer_144) (fun H locs hP hD hS => ?_)
          have ev := Option.some.inj hf
          subst ev
          exact K16 o19.1 o19.2.1 o19.2.2.1 o19.2.2.2 hk15 H locs ls hP hD hS (lv_sub hl [] rfl)
        replace hf := xsBd_use hf
        obtain ⟨v21, hf, hk22⟩ := hf
        refine lv_if_eq (tgt := 136) hx hb dX11_takesNearer_123 (by decide) (fun c26 => ?_) (fun c26 => ?_)
        · replace hf := xsBr_t c26 hf
          refine lv_aload_n hx hb dX11_takesNearer_136 rfl (lv_at hl 0 rfl) ?_
          refine xg_X11_32 C hP dX11_takesNearer_137 ?_
          refine lv_iconst (v := (3 : Int32)) hx hb dX11_takesNearer_140 (by decide) ?_
          replace hf := xsCk_use hf
          obtain ⟨h24, hf⟩ := hf
          refine xl_mShare C hP h24 dX11_takesNearer_141 ?_
          refine lv_i2l hx hb dX11_takesNearer_142 rfl ?_
          have ev := Option.some.inj hf
          subst ev
          exact K23 ((mShare (3 : Int32).toNatClampNeg).toInt64) hk22 H locs ls hP hD hS (lv_sub hl [] rfl)
        · replace hf := xsBr_f c26 hf
          refine lv_aload_n hx hb dX11_takesNearer_126 rfl (lv_at hl 0 rfl) ?_
          refine xg_X11_32 C hP dX11_takesNearer_127 ?_
          refine lv_iconst (v := (1 : Int32)) hx hb dX11_takesNearer_130 (by decide) ?_
          replace hf := xsCk_use hf
          obtain ⟨h25, hf⟩ := hf
          refine xl_mShare C hP h25 dX11_takesNearer_131 ?_
          refine lv_i2l hx hb dX11_takesNearer_132 rfl ?_
          refine lv_goto (tgt := 143) hx hb dX11_takesNearer_133 (by decide) ?_
          have ev := Option.some.inj hf
          subst ev
          exact K23 ((mShare (1 : Int32).toNatClampNeg).toInt64) hk22 H locs ls hP hD hS (lv_sub hl [] rfl)
      replace hf := xsBd_use hf
      obtain ⟨v27, hf, hk28⟩ := hf
      refine lv_if_eq (tgt := 114) hx hb dX11_takesNearer_101 (by decide) (fun c32 => ?_) (fun c32 => ?_)
      · replace hf := xsBr_t c32 hf
        refine lv_aload_n hx hb dX11_takesNearer_114 rfl (lv_at hl 1 rfl) ?_
        refine xg_X11_32 C hP dX11_takesNearer_115 ?_
        refine lv_iconst (v := (2 : Int32)) hx hb dX11_takesNearer_118 (by decide) ?_
        replace hf := xsCk_use hf
        obtain ⟨h30, hf⟩ := hf
        refine xl_mShare C hP h30 dX11_takesNearer_119 ?_
        refine lv_i2l hx hb dX11_takesNearer_120 rfl ?_
        have ev := Option.some.inj hf
        subst ev
        exact K29 ((mShare (2 : Int32).toNatClampNeg).toInt64) hk28 H locs ls hP hD hS (lv_sub hl [1, 0] rfl)
      · replace hf := xsBr_f c32 hf
        refine lv_aload_n hx hb dX11_takesNearer_104 rfl (lv_at hl 1 rfl) ?_
        refine xg_X11_32 C hP dX11_takesNearer_105 ?_
        refine lv_iconst (v := (0 : Int32)) hx hb dX11_takesNearer_108 (by decide) ?_
        replace hf := xsCk_use hf
        obtain ⟨h31, hf⟩ := hf
        refine xl_mShare C hP h31 dX11_takesNearer_109 ?_
        refine lv_i2l hx hb dX11_takesNearer_110 rfl ?_
        refine lv_goto (tgt := 121) hx hb dX11_takesNearer_111 (by decide) ?_
        have ev := Option.some.inj hf
        subst ev
        exact K29 ((mShare (0 : Int32).toNatClampNeg).toInt64) hk28 H locs ls hP hD hS (lv_sub hl [1, 0] rfl)
    · replace hf := xsBr_f c35 hf
      refine lv_aload_n hx hb dX11_takesNearer_86 rfl (lv_at hl 1 rfl) ?_
      refine lv_iload_n hx hb dX11_takesNearer_87 rfl (lv_at hl 2 rfl) ?_
      refine lv_i2l hx hb dX11_takesNearer_88 rfl ?_
      refine lv_iload_n hx hb dX11_takesNearer_89 rfl (lv_at hl 3 rfl) ?_
      refine lv_i2l hx hb dX11_takesNearer_90 rfl ?_
      refine lv_lconst (v := (1 : Int64)) hx hb dX11_takesNearer_91 (by decide) ?_
      replace hf := xsBd_use hf
      obtain ⟨o33, h34, hf⟩ := hf
      refine xs_calli hS (xs_runV (As := [.long a0.toInt64, .long a1.toInt64, .long (1 : Int64)]) C (mX11_sharesPoint l  h34) w_1677 w_1679 w_61 w_115 w_1680 hd_X11_sharesPoint ⟨rfl, rfl, Nat.le_of_ble_eq_true rfl, Nat.le_of_ble_eq_true rfl, Nat.zero_le _, Nat.zero_le _⟩ hP hD hS lk_X11 rfl hl.1 rfl (Nat.le_of_ble_eq_true rfl) dX11_takesNearer_92) (fun H locs hP hD hS => ?_)
      refine lv_goto (tgt := 147) hx hb dX11_takesNearer_95 (by decide) ?_
      have ev := Option.some.inj hf
      subst ev
      exact K16 o33.1 o33.2.1 o33.2.2.1 o33.2.2.2 hk15 H locs ls hP hD hS (lv_sub hl [] rfl)
  replace hf := xsBd_use hf
  obtain ⟨v36, hf, hk37⟩ := hf
  refine xs_lcmp_ge (tgt := 68) C dX11_takesNearer_60 dX11_takesNearer_61 (by decide) (fun c39 => ?_) (fun c39 => ?_)
  · replace hf := xsBr_t c39 hf
    refine lv_iconst (v := (0 : Int32)) hx hb dX11_takesNearer_68 (by decide) ?_
    have ev := Option.some.inj hf
    subst ev
    exact K38 (0 : Int32) hk37 H locs ls hP hD hS (lv_sub hl [2, 3, 4] rfl)
  · replace hf := xsBr_f c39 hf
    refine lv_iconst (v := (1 : Int32)) hx hb dX11_takesNearer_64 (by decide) ?_
    refine lv_goto (tgt := 69) hx hb dX11_takesNearer_65 (by decide) ?_
    have ev := Option.some.inj hf
    subst ev
    exact K38 (1 : Int32) hk37 H locs ls hP hD hS (lv_sub hl [2, 3, 4] rfl)
set_option maxRecDepth 100000 in
set_option maxHeartbeats 8000000 in
theorem mX11_sight (l : Launch) {X : xsX} {mThrown mRemembered mHasImage mIsLaid mEvents mCrossings mEdges mTaped mPoint mEnd mBegin mFaultAt mActs : Int32} {mWorld mImage mDraft mEarlier mOne mTwo mShare mCrossingOf mBundle mEventOf mDegree mFrom mTo mMet mTape mFive mTold mFar mViews mHullX mHullY mEndX mEndY mMeets mMeetsOf : Nat → Int32} {mX mY mD mHeightUp mHeightLow : Int64} {mEventX mEventY mEventD mUpper mLower : Nat → Int64} {Rw : va_W} {a0 : Int32} {a1 : Int32} {a2 : Int32} {a3 : Int32} {out : Int32 × Int32 × (Nat → Int32) × (Nat → Int32) × (Nat → Int32) × Int64 × Int64 × Int64} (hf : fX11_sight mThrown mWorld mOne mTwo mShare mX mY mD a0 a1 a2 a3 = some out) : Met l yX11_sight (xsWs yX11_sight cX11_sight 14 (some .int)) { frames := 4, cells := 0, slots := 0, locals := 119 } (xsP X (wM X mThrown mWorld mImage mDraft mEarlier mRemembered mHasImage mIsLaid mOne mTwo mShare mX mY mD mEventX mEventY mEventD mEvents mCrossingOf mBundle mEventOf mDegree mFrom mTo mCrossings mEdges mMet mUpper mLower mTape mTaped mPoint mEnd mBegin mFaultAt mFive mTold mActs mFar mViews mHullX mHullY mEndX mEndY mHeightUp mHeightLow mMeets mMeetsOf Rw) [.ref (xsA X 100), .int a0, .int a1, .int a2, .int a3]) (xsQi X out.1 (wM X out.2.1 mWorld mImage mDraft mEarlier mRemembered mHasImage mIsLaid out.2.2.1 out.2.2.2.1 out.2.2.2.2.1 out.2.2.2.2.2.1 out.2.2.2.2.2.2.1 out.2.2.2.2.2.2.2 mEventX mEventY mEventD mEvents mCrossingOf mBundle mEventOf mDegree mFrom mTo mCrossings mEdges mMet mUpper mLower mTape mTaped mPoint mEnd mBegin mFaultAt mFive mTold mActs mFar mViews mHullX mHullY mEndX mEndY mHeightUp mHeightLow mMeets mMeetsOf Rw)) 0 0 (xsF X) := by
  refine xs_meth RX11 (by decide) rfl (Nat.le_of_ble_eq_true rfl) ?_
  intro p e s m below meth c ls H locs C hP hD hS hr hlk hl
  have hx := C.1
  have hb := C.2.1
  have hl : lv_has ls 14 [(0, .ref (xsA X 100)), (1, .int a0), (2, .int a1), (3, .int a2), (4, .int a3)] := hl
  obtain ⟨Qq, hQq⟩ : ∃ Qq, Qq = xsQi X out.1 (wM X out.2.1 mWorld mImage mDraft mEarlier mRemembered mHasImage mIsLaid out.2.2.1 out.2.2.2.1 out.2.2.2.2.1 out.2.2.2.2.2.1 out.2.2.2.2.2.2.1 out.2.2.2.2.2.2.2 mEventX mEventY mEventD mEvents mCrossingOf mBundle mEventOf mDegree mFrom mTo mCrossings mEdges mMet mUpper mLower mTape mTaped mPoint mEnd mBegin mFaultAt mFive mTold mActs mFar mViews mHullX mHullY mEndX mEndY mHeightUp mHeightLow mMeets mMeetsOf Rw) := ⟨_, rfl⟩
  rw [← hQq]
  unfold fX11_sight at hf
  refine lv_aload_n hx hb dX11_sight_0 rfl (lv_at hl 0 rfl) ?_
  refine lv_iconst (v := (0 : Int32)) hx hb dX11_sight_1 (by decide) ?_
  refine xp_X11_3 C hP hD hS dX11_sight_2 (fun H locs hP hD hS => ?_)
  refine lv_aload_n hx hb dX11_sight_5 rfl (lv_at hl 0 rfl) ?_
  refine lv_iload_n hx hb dX11_sight_6 rfl (lv_at hl 1 rfl) ?_
  refine lv_iload_n hx hb dX11_sight_7 rfl (lv_at hl 2 rfl) ?_
  replace hf := xsBd_use hf
  obtain ⟨o1, h2, hf⟩ := hf
  refine xs_calli hS (xs_runV (As := [.int a0, .int a1]) C (mX11_noPlace l  h2) w_1892 w_1894 w_91 w_115 w_1895 hd_X11_noPlace ⟨rfl, rfl, Nat.le_of_ble_eq_true rfl, Nat.le_of_ble_eq_true rfl, Nat.zero_le _, Nat.zero_le _⟩ hP hD hS lk_X11 rfl hl.1 rfl (Nat.le_of_ble_eq_true rfl) dX11_sight_8) (fun H locs hP hD hS => ?_)
  refine lv_if_ne (tgt := 24) hx hb dX11_sight_11 (by decide) (fun c67 => ?_) (fun c67 => ?_)
  · replace hf := xsBr_f c67 hf
    refine lv_iconst (v := (0 : Int32)) hx hb dX11_sight_24 (by decide) ?_
    have ho := Option.some.inj hf
    subst ho
    rw [hQq]
    exact xs_iret C hr hlk hP hD hS dX11_sight_25
  · replace hf := xsBr_t c67 hf
    refine lv_aload_n hx hb dX11_sight_14 rfl (lv_at hl 0 rfl) ?_
    refine lv_iload_n hx hb dX11_sight_15 rfl (lv_at hl 3 rfl) ?_
    refine lv_iload hx hb dX11_sight_16 (lv_at hl 4 rfl) ?_
    replace hf := xsBd_use hf
    obtain ⟨o3, h4, hf⟩ := hf
    refine xs_calli hS (xs_runV (As := [.int a2, .int a3]) C (mX11_noPlace l  h4) w_1892 w_1894 w_91 w_115 w_1895 hd_X11_noPlace ⟨rfl, rfl, Nat.le_of_ble_eq_true rfl, Nat.le_of_ble_eq_true rfl, Nat.zero_le _, Nat.zero_le _⟩ hP hD hS lk_X11 rfl hl.1 rfl (Nat.le_of_ble_eq_true rfl) dX11_sight_18) (fun H locs hP hD hS => ?_)
    refine lv_if_eq (tgt := 26) hx hb dX11_sight_21 (by decide) (fun c66 => ?_) (fun c66 => ?_)
    · replace hf := xsBr_t c66 hf
      refine lv_iconst (v := (-1 : Int32)) hx hb dX11_sight_26 (by decide) ?_
      refine lv_istore (lv' := [(5, .int (-1 : Int32)), (0, .ref (xsA X 100)), (1, .int a0), (2, .int a1), (3, .int a2), (4, .int a3)]) hx hb dX11_sight_27 hl (by decide) rfl (fun ls hl => ?_)
      refine lv_lconst (v := (0 : Int64)) hx hb dX11_sight_29 (by decide) ?_
      refine lv_lstore (lv' := [(6, .long (0 : Int64)), (5, .int (-1 : Int32)), (0, .ref (xsA X 100)), (1, .int a0), (2, .int a1), (3, .int a2), (4, .int a3)]) hx hb dX11_sight_30 hl (by decide) rfl (fun ls hl => ?_)
      refine lv_lconst (v := (1 : Int64)) hx hb dX11_sight_32 (by decide) ?_
      refine lv_lstore (lv' := [(8, .long (1 : Int64)), (6, .long (0 : Int64)), (5, .int (-1 : Int32)), (0, .ref (xsA X 100)), (1, .int a0), (2, .int a1), (3, .int a2), (4, .int a3)]) hx hb dX11_sight_33 hl (by decide) rfl (fun ls hl => ?_)
      refine lv_iconst (v := (0 : Int32)) hx hb dX11_sight_35 (by decide) ?_
      refine lv_istore (lv' := [(10, .int (0 : Int32)), (8, .long (1 : Int64)), (6, .long (0 : Int64)), (5, .int (-1 : Int32)), (0, .ref (xsA X 100)), (1, .int a0), (2, .int a1), (3, .int a2), (4, .int a3)]) hx hb dX11_sight_36 hl (by decide) rfl (fun ls hl => ?_)
      have K15 : ∀ (y16 : Int32) (y17 : Nat → Int32) (y18 : Nat → Int32) (y19 : Nat → Int32) (y20 : Int64) (y21 : Int64) (y22 : Int64) (hf : fX11_sight_J183 o3 y16 y17 y18 y19 y20 y21 y22 = some out) (H : Heap) (locs : List Loc) (ls : Array Slot), va_P (xsD X) vwCl (wM X o3.2 mWorld mImage mDraft mEarlier mRemembered mHasImage mIsLaid y17 y18 y19 y20 y21 y22 mEventX mEventY mEventD mEvents mCrossingOf mBundle mEventOf mDegree mFrom mTo mCrossings mEdges mMet mUpper mLower mTape mTaped mPoint mEnd mBegin mFaultAt mFive mTold mActs mFar mViews mHullX mHullY mEndX mEndY mHeightUp mHeightLow mMeets mMeetsOf Rw) H → va_D (xsF X) (wM X o3.2 mWorld mImage mDraft mEarlier mRemembered mHasImage mIsLaid y17 y18 y19 y20 y21 y22 mEventX mEventY mEventD mEvents mCrossingOf mBundle mEventOf mDegree mFrom mTo mCrossings mEdges mMet mUpper mLower mTape mTaped mPoint mEnd mBegin mFaultAt mFive mTold mActs mFar mViews mHullX mHullY mEndX mEndY mHeightUp mHeightLow mMeets mMeetsOf Rw) → va_S (xsF X) s.heap H locs → lv_has ls 14 [(5, .int y16)] → W p l e { frames := 4, cells := 0, slots := 0, locals := 119 } s m ([.ref (xsA X 100), .int a0, .int a1, .int a2, .int a3] : List Value).toArray below meth c H locs 0 0 (MQ below Qq ([.ref (xsA X 100), .int a0, .int a1, .int a2, .int a3] : List Value).toArray s 0 0 (xsF X)) (F0 m 183 ls []) := by
        intro y16 y17 y18 y19 y20 y21 y22 hf H locs ls hP hD hS hl
        unfold fX11_sight_J183 at hf
        refine lv_iload hx hb dX11_sight_183 (lv_at hl 0 rfl) ?_
        have ho := Option.some.inj hf
        subst ho
        rw [hQq]
        exact xs_iret C hr hlk hP hD hS dX11_sight_185
      replace hf := xsBd_use hf
      obtain ⟨r15, hk150, hf⟩ := hf
      have L15 : ∀ (sg : Int32 × Int64 × Int64 × Int32 × (Nat → Int32) × (Nat → Int32) × (Nat → Int32) × Int64 × Int64 × Int64) (rg : Int32 × (Nat → Int32) × (Nat → Int32) × (Nat → Int32) × Int64 × Int64 × Int64), xsWh (fun s15 => fX11_sight_L38 mWorld a0 a1 a2 a3 s15.1 s15.2.1 s15.2.2.1 s15.2.2.2.1 s15.2.2.2.2.1 s15.2.2.2.2.2.1 s15.2.2.2.2.2.2.1 s15.2.2.2.2.2.2.2.1 s15.2.2.2.2.2.2.2.2.1 s15.2.2.2.2.2.2.2.2.2) sg = some rg → (fX11_sight_J183 o3 rg.1 rg.2.1 rg.2.2.1 rg.2.2.2.1 rg.2.2.2.2.1 rg.2.2.2.2.2.1 rg.2.2.2.2.2.2 = some out → ∀ (H : Heap) (locs : List Loc) (ls : Array Slot), va_P (xsD X) vwCl (wM X o3.2 mWorld mImage mDraft mEarlier mRemembered mHasImage mIsLaid sg.2.2.2.2.1 sg.2.2.2.2.2.1 sg.2.2.2.2.2.2.1 sg.2.2.2.2.2.2.2.1 sg.2.2.2.2.2.2.2.2.1 sg.2.2.2.2.2.2.2.2.2 mEventX mEventY mEventD mEvents mCrossingOf mBundle mEventOf mDegree mFrom mTo mCrossings mEdges mMet mUpper mLower mTape mTaped mPoint mEnd mBegin mFaultAt mFive mTold mActs mFar mViews mHullX mHullY mEndX mEndY mHeightUp mHeightLow mMeets mMeetsOf Rw) H → va_D (xsF X) (wM X o3.2 mWorld mImage mDraft mEarlier mRemembered mHasImage mIsLaid sg.2.2.2.2.1 sg.2.2.2.2.2.1 sg.2.2.2.2.2.2.1 sg.2.2.2.2.2.2.2.1 sg.2.2.2.2.2.2.2.2.1 sg.2.2.2.2.2.2.2.2.2 mEventX mEventY mEventD mEvents mCrossingOf mBundle mEventOf mDegree mFrom mTo mCrossings mEdges mMet mUpper mLower mTape mTaped mPoint mEnd mBegin mFaultAt mFive mTold mActs mFar mViews mHullX mHullY mEndX mEndY mHeightUp mHeightLow mMeets mMeetsOf Rw) → va_S (xsF X) s.heap H locs → lv_has ls 14 [(0, .ref (xsA X 100)), (1, .int a0), (2, .int a1), (3, .int a2), (4, .int a3), (5, .int sg.1), (6, .long sg.2.1), (8, .long sg.2.2.1), (10, .int sg.2.2.2.1)] → W p l e { frames := 4, cells := 0, slots := 0, locals := 119 } s m ([.ref (xsA X 100), .int a0, .int a1, .int a2, .int a3] : List Value).toArray below meth c H locs 0 0 (MQ below Qq ([.ref (xsA X 100), .int a0, .int a1, .int a2, .int a3] : List Value).toArray s 0 0 (xsF X)) (F0 m 38 ls [])) := by
        refine xsWh_ind ?_
        intro sg r15 u15 hf ih15 hx15 hk15 H locs ls hP hD hS hl
        obtain ⟨y5, y6, y7, y8, y9, y10, y11, y12, y13, y14⟩ := sg
        replace hf : fX11_sight_L38 mWorld a0 a1 a2 a3 y5 y6 y7 y8 y9 y10 y11 y12 y13 y14 = some u15 := hf
        replace hl : lv_has ls 14 [(0, .ref (xsA X 100)), (1, .int a0), (2, .int a1), (3, .int a2), (4, .int a3), (5, .int y5), (6, .long y6), (8, .long y7), (10, .int y8)] := hl
        replace hP : va_P (xsD X) vwCl (wM X o3.2 mWorld mImage mDraft mEarlier mRemembered mHasImage mIsLaid y9 y10 y11 y12 y13 y14 mEventX mEventY mEventD mEvents mCrossingOf mBundle mEventOf mDegree mFrom mTo mCrossings mEdges mMet mUpper mLower mTape mTaped mPoint mEnd mBegin mFaultAt mFive mTold mActs mFar mViews mHullX mHullY mEndX mEndY mHeightUp mHeightLow mMeets mMeetsOf Rw) H := hP
        replace hD : va_D (xsF X) (wM X o3.2 mWorld mImage mDraft mEarlier mRemembered mHasImage mIsLaid y9 y10 y11 y12 y13 y14 mEventX mEventY mEventD mEvents mCrossingOf mBundle mEventOf mDegree mFrom mTo mCrossings mEdges mMet mUpper mLower mTape mTaped mPoint mEnd mBegin mFaultAt mFive mTold mActs mFar mViews mHullX mHullY mEndX mEndY mHeightUp mHeightLow mMeets mMeetsOf Rw) := hD
        unfold fX11_sight_L38 at hf
        refine lv_iload hx hb dX11_sight_38 (lv_at hl 8 rfl) ?_
        refine lv_aload_n hx hb dX11_sight_40 rfl (lv_at hl 0 rfl) ?_
        replace hf := xsBd_use hf
        obtain ⟨o23, h24, hf⟩ := hf
        refine xs_calli hS (xs_runV (As := []) C (mX11_many l  h24) w_1581 w_1583 w_44 w_115 w_1584 hd_X11_many ⟨rfl, rfl, Nat.le_of_ble_eq_true rfl, Nat.le_of_ble_eq_true rfl, Nat.zero_le _, Nat.zero_le _⟩ hP hD hS lk_X11 rfl hl.1 rfl (Nat.le_of_ble_eq_true rfl) dX11_sight_41) (fun H locs hP hD hS => ?_)
        refine lv_icmp_ge (tgt := 183) hx hb dX11_sight_44 (by decide) (fun c65 => ?_) (fun c65 => ?_)
        · replace hf := xsBr_t c65 hf
          have ez := hx15 _ (Option.some.inj hf).symm
          subst ez
          exact K15 y5 y9 y10 y11 y12 y13 y14 hk15 H locs ls hP hD hS (lv_sub hl [5] rfl)
        · replace hf := xsBr_f c65 hf
          refine lv_aload_n hx hb dX11_sight_47 rfl (lv_at hl 0 rfl) ?_
          refine lv_aload_n hx hb dX11_sight_48 rfl (lv_at hl 0 rfl) ?_
          refine xg_X11_26 C hP dX11_sight_49 ?_
          refine lv_iload hx hb dX11_sight_52 (lv_at hl 8 rfl) ?_
          replace hf := xsBd_use hf
          obtain ⟨o25, h26, hf⟩ := hf
          refine xs_callv hS (xs_runV (As := [.ref (xsA X 105), .int y8]) C (mX11_takes l  h26) w_1661 w_1663 w_59 w_115 w_1664 hd_X11_takes ⟨rfl, rfl, Nat.le_of_ble_eq_true rfl, Nat.le_of_ble_eq_true rfl, Nat.zero_le _, Nat.zero_le _⟩ hP hD hS lk_X11 rfl hl.1 rfl (Nat.le_of_ble_eq_true rfl) dX11_sight_54) (fun H locs hP hD hS => ?_)
          refine lv_aload_n hx hb dX11_sight_57 rfl (lv_at hl 0 rfl) ?_
          refine lv_iload_n hx hb dX11_sight_58 rfl (lv_at hl 1 rfl) ?_
          refine lv_iload_n hx hb dX11_sight_59 rfl (lv_at hl 2 rfl) ?_
          refine lv_iload_n hx hb dX11_sight_60 rfl (lv_at hl 3 rfl) ?_
          refine lv_iload hx hb dX11_sight_61 (lv_at hl 4 rfl) ?_
          replace hf := xsBd_use hf
          obtain ⟨o27, h28, hf⟩ := hf
          refine xs_callv hS (xs_runV (As := [.int a0, .int a1, .int a2, .int a3]) C (mX11_takesStretch l  h28) w_1916 w_1918 w_94 w_115 w_1919 hd_X11_takesStretch ⟨rfl, rfl, Nat.le_of_ble_eq_true rfl, Nat.le_of_ble_eq_true rfl, Nat.zero_le _, Nat.zero_le _⟩ hP hD hS lk_X11 rfl hl.1 rfl (Nat.le_of_ble_eq_true rfl) dX11_sight_63) (fun H locs hP hD hS => ?_)
          refine lv_aload_n hx hb dX11_sight_66 rfl (lv_at hl 0 rfl) ?_
          replace hf := xsBd_use hf
          obtain ⟨o29, h30, hf⟩ := hf
          refine xs_calli hS (xs_runV (As := []) C (mX11_shares l  h30) w_1665 w_1667 w_60 w_115 w_1668 hd_X11_shares ⟨rfl, rfl, Nat.le_of_ble_eq_true rfl, Nat.le_of_ble_eq_true rfl, Nat.zero_le _, Nat.zero_le _⟩ hP hD hS lk_X11 rfl hl.1 rfl (Nat.le_of_ble_eq_true rfl) dX11_sight_67) (fun H locs hP hD hS => ?_)
          refine lv_istore (lv' := [(11, .int o29.1), (0, .ref (xsA X 100)), (1, .int a0), (2, .int a1), (3, .int a2), (4, .int a3), (5, .int y5), (6, .long y6), (8, .long y7), (10, .int y8)]) hx hb dX11_sight_70 hl (by decide) rfl (fun ls hl => ?_)
          refine lv_iload hx hb dX11_sight_72 (lv_at hl 0 rfl) ?_
          have K40 : ∀ (y31 : Int32) (y32 : Int64) (y33 : Int64) (y34 : Int64) (y35 : Int64) (y36 : Int64) (hf : fX11_sight_J177 y8 o25 o27 o29 y31 y32 y33 y34 y35 y36 = some u15) (H : Heap) (locs : List Loc) (ls : Array Slot), va_P (xsD X) vwCl (wM X o3.2 mWorld mImage mDraft mEarlier mRemembered mHasImage mIsLaid o25 o27 o29.2.1 y34 y35 y36 mEventX mEventY mEventD mEvents mCrossingOf mBundle mEventOf mDegree mFrom mTo mCrossings mEdges mMet mUpper mLower mTape mTaped mPoint mEnd mBegin mFaultAt mFive mTold mActs mFar mViews mHullX mHullY mEndX mEndY mHeightUp mHeightLow mMeets mMeetsOf Rw) H → va_D (xsF X) (wM X o3.2 mWorld mImage mDraft mEarlier mRemembered mHasImage mIsLaid o25 o27 o29.2.1 y34 y35 y36 mEventX mEventY mEventD mEvents mCrossingOf mBundle mEventOf mDegree mFrom mTo mCrossings mEdges mMet mUpper mLower mTape mTaped mPoint mEnd mBegin mFaultAt mFive mTold mActs mFar mViews mHullX mHullY mEndX mEndY mHeightUp mHeightLow mMeets mMeetsOf Rw) → va_S (xsF X) s.heap H locs → lv_has ls 14 [(0, .ref (xsA X 100)), (1, .int a0), (2, .int a1), (3, .int a2), (4, .int a3), (5, .int y31), (6, .long y32), (8, .long y33), (10, .int y8)] → W p l e { frames := 4, cells := 0, slots := 0, locals := 119 } s m ([.ref (xsA X 100), .int a0, .int a1, .int a2, .int a3] : List Value).toArray below meth c H locs 0 0 (MQ below Qq ([.ref (xsA X 100), .int a0, .int a1, .int a2, .int a3] : List Value).toArray s 0 0 (xsF X)) (F0 m 177 ls []) := by
            intro y31 y32 y33 y34 y35 y36 hf H locs ls hP hD hS hl
            unfold fX11_sight_J177 at hf
            obtain ⟨x37, ex37⟩ : ∃ y : Int32, y = y8 + (1 : Int32) := ⟨_, rfl⟩
            replace hf := xsLt_use ex37 hf
            refine lv_iinc (v := x37) (lv' := [(10, .int x37), (0, .ref (xsA X 100)), (1, .int a0), (2, .int a1), (3, .int a2), (4, .int a3), (5, .int y31), (6, .long y32), (8, .long y33)]) hx hb dX11_sight_177 hl (k := 8) rfl (by rw [ex37]; rfl) (by decide) rfl (fun ls hl => ?_)
            refine lv_goto (tgt := 38) hx hb dX11_sight_180 (by decide) ?_
            exact ih15 _ (Option.some.inj hf).symm hk15 H locs ls hP hD hS (lv_sub hl [1, 2, 3, 4, 5, 6, 7, 8, 0] rfl)
          replace hf := xsBd_use hf
          obtain ⟨v38, hf, hk39⟩ := hf
          refine lv_if_ne (tgt := 80) hx hb dX11_sight_74 (by decide) (fun c64 => ?_) (fun c64 => ?_)
          · replace hf := xsBr_f c64 hf
            refine lv_iload hx hb dX11_sight_80 (lv_at hl 0 rfl) ?_
            refine lv_iconst (v := (2 : Int32)) hx hb dX11_sight_82 (by decide) ?_
            have K60 : ∀ (y41 : Int64) (y42 : Int64) (y43 : Int64) (hf : fX11_sight_J92 a0 a1 a2 y5 y6 y7 y8 y41 y42 y43 = some v38) (H : Heap) (locs : List Loc) (ls : Array Slot), va_P (xsD X) vwCl (wM X o3.2 mWorld mImage mDraft mEarlier mRemembered mHasImage mIsLaid o25 o27 o29.2.1 y41 y42 y43 mEventX mEventY mEventD mEvents mCrossingOf mBundle mEventOf mDegree mFrom mTo mCrossings mEdges mMet mUpper mLower mTape mTaped mPoint mEnd mBegin mFaultAt mFive mTold mActs mFar mViews mHullX mHullY mEndX mEndY mHeightUp mHeightLow mMeets mMeetsOf Rw) H → va_D (xsF X) (wM X o3.2 mWorld mImage mDraft mEarlier mRemembered mHasImage mIsLaid o25 o27 o29.2.1 y41 y42 y43 mEventX mEventY mEventD mEvents mCrossingOf mBundle mEventOf mDegree mFrom mTo mCrossings mEdges mMet mUpper mLower mTape mTaped mPoint mEnd mBegin mFaultAt mFive mTold mActs mFar mViews mHullX mHullY mEndX mEndY mHeightUp mHeightLow mMeets mMeetsOf Rw) → va_S (xsF X) s.heap H locs → lv_has ls 14 [(0, .ref (xsA X 100)), (1, .int a0), (2, .int a1), (3, .int a2), (4, .int a3), (5, .int y5), (6, .long y6), (8, .long y7), (10, .int y8)] → W p l e { frames := 4, cells := 0, slots := 0, locals := 119 } s m ([.ref (xsA X 100), .int a0, .int a1, .int a2, .int a3] : List Value).toArray below meth c H locs 0 0 (MQ below Qq ([.ref (xsA X 100), .int a0, .int a1, .int a2, .int a3] : List Value).toArray s 0 0 (xsF X)) (F0 m 92 ls []) := by
              intro y41 y42 y43 hf H locs ls hP hD hS hl
              unfold fX11_sight_J92 at hf
              refine lv_iload_n hx hb dX11_sight_92 rfl (lv_at hl 1 rfl) ?_
              refine lv_iload_n hx hb dX11_sight_93 rfl (lv_at hl 3 rfl) ?_
              have K56 : ∀ (y44 : Int64) (hf : fX11_sight_J124 y5 y6 y7 y8 y41 y42 y43 y44 = some v38) (H : Heap) (locs : List Loc) (ls : Array Slot), va_P (xsD X) vwCl (wM X o3.2 mWorld mImage mDraft mEarlier mRemembered mHasImage mIsLaid o25 o27 o29.2.1 y41 y42 y43 mEventX mEventY mEventD mEvents mCrossingOf mBundle mEventOf mDegree mFrom mTo mCrossings mEdges mMet mUpper mLower mTape mTaped mPoint mEnd mBegin mFaultAt mFive mTold mActs mFar mViews mHullX mHullY mEndX mEndY mHeightUp mHeightLow mMeets mMeetsOf Rw) H → va_D (xsF X) (wM X o3.2 mWorld mImage mDraft mEarlier mRemembered mHasImage mIsLaid o25 o27 o29.2.1 y41 y42 y43 mEventX mEventY mEventD mEvents mCrossingOf mBundle mEventOf mDegree mFrom mTo mCrossings mEdges mMet mUpper mLower mTape mTaped mPoint mEnd mBegin mFaultAt mFive mTold mActs mFar mViews mHullX mHullY mEndX mEndY mHeightUp mHeightLow mMeets mMeetsOf Rw) → va_S (xsF X) s.heap H locs → lv_has ls 14 [(0, .ref (xsA X 100)), (1, .int a0), (2, .int a1), (3, .int a2), (4, .int a3), (5, .int y5), (6, .long y6), (8, .long y7), (10, .int y8)] → W p l e { frames := 4, cells := 0, slots := 0, locals := 119 } s m ([.ref (xsA X 100), .int a0, .int a1, .int a2, .int a3] : List Value).toArray below meth c H locs 0 0 (MQ below Qq ([.ref (xsA X 100), .int a0, .int a1, .int a2, .int a3] : List Value).toArray s 0 0 (xsF X)) (F0 m 124 ls [.long y44]) := by
                intro y44 hf H locs ls hP hD hS hl
                unfold fX11_sight_J124 at hf
                refine lv_lstore (lv' := [(12, .long y44), (0, .ref (xsA X 100)), (1, .int a0), (2, .int a1), (3, .int a2), (4, .int a3), (5, .int y5), (6, .long y6), (8, .long y7), (10, .int y8)]) hx hb dX11_sight_124 hl (by decide) rfl (fun ls hl => ?_)
                refine lv_lload hx hb dX11_sight_126 (lv_at hl 0 rfl) ?_
                refine lv_lconst (v := (0 : Int64)) hx hb dX11_sight_128 (by decide) ?_
                have K51 : ∀ (y45 : Int64) (hf : fX11_sight_J138 y5 y6 y7 y8 y41 y42 y43 y45 = some v38) (H : Heap) (locs : List Loc) (ls : Array Slot), va_P (xsD X) vwCl (wM X o3.2 mWorld mImage mDraft mEarlier mRemembered mHasImage mIsLaid o25 o27 o29.2.1 y41 y42 y43 mEventX mEventY mEventD mEvents mCrossingOf mBundle mEventOf mDegree mFrom mTo mCrossings mEdges mMet mUpper mLower mTape mTaped mPoint mEnd mBegin mFaultAt mFive mTold mActs mFar mViews mHullX mHullY mEndX mEndY mHeightUp mHeightLow mMeets mMeetsOf Rw) H → va_D (xsF X) (wM X o3.2 mWorld mImage mDraft mEarlier mRemembered mHasImage mIsLaid o25 o27 o29.2.1 y41 y42 y43 mEventX mEventY mEventD mEvents mCrossingOf mBundle mEventOf mDegree mFrom mTo mCrossings mEdges mMet mUpper mLower mTape mTaped mPoint mEnd mBegin mFaultAt mFive mTold mActs mFar mViews mHullX mHullY mEndX mEndY mHeightUp mHeightLow mMeets mMeetsOf Rw) → va_S (xsF X) s.heap H locs → lv_has ls 14 [(0, .ref (xsA X 100)), (1, .int a0), (2, .int a1), (3, .int a2), (4, .int a3), (5, .int y5), (6, .long y6), (8, .long y7), (10, .int y8), (12, .long y45)] → W p l e { frames := 4, cells := 0, slots := 0, locals := 119 } s m ([.ref (xsA X 100), .int a0, .int a1, .int a2, .int a3] : List Value).toArray below meth c H locs 0 0 (MQ below Qq ([.ref (xsA X 100), .int a0, .int a1, .int a2, .int a3] : List Value).toArray s 0 0 (xsF X)) (F0 m 138 ls []) := by
                  intro y45 hf H locs ls hP hD hS hl
                  unfold fX11_sight_J138 at hf
                  refine lv_iload hx hb dX11_sight_138 (lv_at hl 5 rfl) ?_
                  refine lv_iconst (v := (-1 : Int32)) hx hb dX11_sight_140 (by decide) ?_
                  have K46 : ∀ (hf : fX11_sight_J163 y8 y41 y42 y43 y45 = some v38) (H : Heap) (locs : List Loc) (ls : Array Slot), va_P (xsD X) vwCl (wM X o3.2 mWorld mImage mDraft mEarlier mRemembered mHasImage mIsLaid o25 o27 o29.2.1 y41 y42 y43 mEventX mEventY mEventD mEvents mCrossingOf mBundle mEventOf mDegree mFrom mTo mCrossings mEdges mMet mUpper mLower mTape mTaped mPoint mEnd mBegin mFaultAt mFive mTold mActs mFar mViews mHullX mHullY mEndX mEndY mHeightUp mHeightLow mMeets mMeetsOf Rw) H → va_D (xsF X) (wM X o3.2 mWorld mImage mDraft mEarlier mRemembered mHasImage mIsLaid o25 o27 o29.2.1 y41 y42 y43 mEventX mEventY mEventD mEvents mCrossingOf mBundle mEventOf mDegree mFrom mTo mCrossings mEdges mMet mUpper mLower mTape mTaped mPoint mEnd mBegin mFaultAt mFive mTold mActs mFar mViews mHullX mHullY mEndX mEndY mHeightUp mHeightLow mMeets mMeetsOf Rw) → va_S (xsF X) s.heap H locs → lv_has ls 14 [(0, .ref (xsA X 100)), (1, .int a0), (2, .int a1), (3, .int a2), (4, .int a3), (10, .int y8), (12, .long y45)] → W p l e { frames := 4, cells := 0, slots := 0, locals := 119 } s m ([.ref (xsA X 100), .int a0, .int a1, .int a2, .int a3] : List Value).toArray below meth c H locs 0 0 (MQ below Qq ([.ref (xsA X 100), .int a0, .int a1, .int a2, .int a3] : List Value).toArray s 0 0 (xsF X)) (F0 m 163 ls []) := by
                    intro hf H locs ls hP hD hS hl
                    unfold fX11_sight_J163 at hf
                    refine lv_iload hx hb dX11_sight_163 (lv_at hl 5 rfl) ?_
                    refine lv_istore (lv' := [(5, .int y8), (0, .ref (xsA X 100)), (1, .int a0), (2, .int a1), (3, .int a2), (4, .int a3), (10, .int y8), (12, .long y45)]) hx hb dX11_sight_165 hl (by decide) rfl (fun ls hl => ?_)
                    refine lv_lload hx hb dX11_sight_167 (lv_at hl 7 rfl) ?_
                    refine lv_lstore (lv' := [(6, .long y45), (5, .int y8), (0, .ref (xsA X 100)), (1, .int a0), (2, .int a1), (3, .int a2), (4, .int a3), (10, .int y8), (12, .long y45)]) hx hb dX11_sight_169 hl (by decide) rfl (fun ls hl => ?_)
                    refine lv_aload_n hx hb dX11_sight_171 rfl (lv_at hl 2 rfl) ?_
                    refine xg_X11_154 C hP dX11_sight_172 ?_
                    refine lv_lstore (lv' := [(8, .long y43), (6, .long y45), (5, .int y8), (0, .ref (xsA X 100)), (1, .int a0), (2, .int a1), (3, .int a2), (4, .int a3), (10, .int y8), (12, .long y45)]) hx hb dX11_sight_175 hl (by decide) rfl (fun ls hl => ?_)
                    have ev := Option.some.inj hf
                    subst ev
                    exact K40 y8 y45 y43 y41 y42 y43 hk39 H locs ls hP hD hS (lv_sub hl [3, 4, 5, 6, 7, 2, 1, 0, 8] rfl)
                  refine lv_icmp_eq (tgt := 163) hx hb dX11_sight_141 (by decide) (fun c48 => ?_) (fun c48 => ?_)
                  · replace hf := xsBr_t c48 hf
                    exact K46 hf H locs ls hP hD hS (lv_sub hl [0, 1, 2, 3, 4, 8, 9] rfl)
                  · replace hf := xsBr_f c48 hf
                    refine lv_lload hx hb dX11_sight_144 (lv_at hl 9 rfl) ?_
                    refine lv_lload hx hb dX11_sight_146 (lv_at hl 7 rfl) ?_
                    refine lv_lmul hx hb dX11_sight_148 ?_
                    refine lv_lload hx hb dX11_sight_149 (lv_at hl 6 rfl) ?_
                    refine lv_aload_n hx hb dX11_sight_151 rfl (lv_at hl 0 rfl) ?_
                    refine xg_X11_154 C hP dX11_sight_152 ?_
                    refine lv_lmul hx hb dX11_sight_155 ?_
                    refine xs_lcmp_lt (tgt := 163) C dX11_sight_156 dX11_sight_157 (by decide) (fun c47 => ?_) (fun c47 => ?_)
                    · replace hf := xsBr_t c47 hf
                      exact K46 hf H locs ls hP hD hS (lv_sub hl [0, 1, 2, 3, 4, 8, 9] rfl)
                    · replace hf := xsBr_f c47 hf
                      refine lv_goto (tgt := 177) hx hb dX11_sight_160 (by decide) ?_
                      have ev := Option.some.inj hf
                      subst ev
                      exact K40 y5 y6 y7 y41 y42 y43 hk39 H locs ls hP hD hS (lv_sub hl [0, 1, 2, 3, 4, 5, 6, 7, 8] rfl)
                replace hf := xsBd_use hf
                obtain ⟨v49, hf, hk50⟩ := hf
                refine xs_lcmp_ge (tgt := 138) C dX11_sight_129 dX11_sight_130 (by decide) (fun c53 => ?_) (fun c53 => ?_)
                · replace hf := xsBr_t c53 hf
                  have ev := Option.some.inj hf
                  subst ev
                  exact K51 y44 hk50 H locs ls hP hD hS (lv_sub hl [1, 2, 3, 4, 5, 6, 7, 8, 9, 0] rfl)
                · replace hf := xsBr_f c53 hf
                  refine lv_lload hx hb dX11_sight_133 (lv_at hl 0 rfl) ?_
                  refine lv_lneg hx hb dX11_sight_135 ?_
                  refine lv_topl (fun x52 ex52 => ?_)
                  replace hf := xsLt_use ex52 hf
                  refine lv_lstore (lv' := [(12, .long x52), (0, .ref (xsA X 100)), (1, .int a0), (2, .int a1), (3, .int a2), (4, .int a3), (5, .int y5), (6, .long y6), (8, .long y7), (10, .int y8)]) hx hb dX11_sight_136 hl (by decide) rfl (fun ls hl => ?_)
                  have ev := Option.some.inj hf
                  subst ev
                  exact K51 x52 hk50 H locs ls hP hD hS (lv_sub hl [1, 2, 3, 4, 5, 6, 7, 8, 9, 0] rfl)
              replace hf := xsBd_use hf
              obtain ⟨v54, hf, hk55⟩ := hf
              refine lv_icmp_ne (tgt := 112) hx hb dX11_sight_94 (by decide) (fun c57 => ?_) (fun c57 => ?_)
              · replace hf := xsBr_f c57 hf
                refine lv_aload_n hx hb dX11_sight_112 rfl (lv_at hl 0 rfl) ?_
                refine xg_X11_147 C hP dX11_sight_113 ?_
                refine lv_iload_n hx hb dX11_sight_116 rfl (lv_at hl 1 rfl) ?_
                refine lv_i2l hx hb dX11_sight_117 rfl ?_
                refine lv_aload_n hx hb dX11_sight_118 rfl (lv_at hl 0 rfl) ?_
                refine xg_X11_154 C hP dX11_sight_119 ?_
                refine lv_lmul hx hb dX11_sight_122 ?_
                refine lv_lsub hx hb dX11_sight_123 ?_
                have ev := Option.some.inj hf
                subst ev
                exact K56 (y41 - (a0.toInt64 * y43)) hk55 H locs ls hP hD hS (lv_sub hl [0, 1, 2, 3, 4, 5, 6, 7, 8] rfl)
              · replace hf := xsBr_t c57 hf
                refine lv_aload_n hx hb dX11_sight_97 rfl (lv_at hl 0 rfl) ?_
                refine xg_X11_151 C hP dX11_sight_98 ?_
                refine lv_iload_n hx hb dX11_sight_101 rfl (lv_at hl 2 rfl) ?_
                refine lv_i2l hx hb dX11_sight_102 rfl ?_
                refine lv_aload_n hx hb dX11_sight_103 rfl (lv_at hl 0 rfl) ?_
                refine xg_X11_154 C hP dX11_sight_104 ?_
                refine lv_lmul hx hb dX11_sight_107 ?_
                refine lv_lsub hx hb dX11_sight_108 ?_
                refine lv_goto (tgt := 124) hx hb dX11_sight_109 (by decide) ?_
                have ev := Option.some.inj hf
                subst ev
                exact K56 (y42 - (a1.toInt64 * y43)) hk55 H locs ls hP hD hS (lv_sub hl [0, 1, 2, 3, 4, 5, 6, 7, 8] rfl)
            replace hf := xsBd_use hf
            obtain ⟨v58, hf, hk59⟩ := hf
            refine lv_icmp_ne (tgt := 92) hx hb dX11_sight_83 (by decide) (fun c63 => ?_) (fun c63 => ?_)
            · replace hf := xsBr_f c63 hf
              have ev := Option.some.inj hf
              subst ev
              exact K60 o29.2.2.1 o29.2.2.2.1 o29.2.2.2.2 hk59 H locs ls hP hD hS (lv_sub hl [1, 2, 3, 4, 5, 6, 7, 8, 9] rfl)
            · replace hf := xsBr_t c63 hf
              refine lv_aload_n hx hb dX11_sight_86 rfl (lv_at hl 1 rfl) ?_
              refine lv_iload_n hx hb dX11_sight_87 rfl (lv_at hl 2 rfl) ?_
              refine lv_iload_n hx hb dX11_sight_88 rfl (lv_at hl 3 rfl) ?_
              replace hf := xsBd_use hf
              obtain ⟨o61, h62, hf⟩ := hf
              refine xs_callv hS (xs_runV (As := [.int a0, .int a1]) C (mX11_takesNearer l  h62) w_1920 w_1922 w_95 w_115 w_1923 hd_X11_takesNearer ⟨rfl, rfl, Nat.le_of_ble_eq_true rfl, Nat.le_of_ble_eq_true rfl, Nat.zero_le _, Nat.zero_le _⟩ hP hD hS lk_X11 rfl hl.1 rfl (Nat.le_of_ble_eq_true rfl) dX11_sight_89) (fun H locs hP hD hS => ?_)
              have ev := Option.some.inj hf
              subst ev
              exact K60 o61.1 o61.2.1 o61.2.2 hk59 H locs ls hP hD hS (lv_sub hl [1, 2, 3, 4, 5, 6, 7, 8, 9] rfl)
          · replace hf := xsBr_t c64 hf
            refine lv_goto (tgt := 177) hx hb dX11_sight_77 (by decide) ?_
            have ev := Option.some.inj hf
            subst ev
            exact K40 y5 y6 y7 o29.2.2.1 o29.2.2.2.1 o29.2.2.2.2 hk39 H locs ls hP hD hS (lv_sub hl [1, 2, 3, 4, 5, 6, 7, 8, 9] rfl)
      exact L15 ((-1 : Int32), (0 : Int64), (1 : Int64), (0 : Int32), mOne, mTwo, mShare, mX, mY, mD) r15 hk150 hf H locs ls hP hD hS (lv_sub hl [4, 5, 6, 7, 8, 3, 2, 1, 0] rfl)
    · replace hf := xsBr_f c66 hf
      refine lv_iconst (v := (0 : Int32)) hx hb dX11_sight_24 (by decide) ?_
      have ho := Option.some.inj hf
      subst ho
      rw [hQq]
      exact xs_iret C hr hlk hP hD hS dX11_sight_25
set_option maxRecDepth 100000 in
set_option maxHeartbeats 8000000 in
theorem mX11_hits (l : Launch) {X : xsX} {mThrown mRemembered mHasImage mIsLaid mEvents mCrossings mEdges mTaped mPoint mEnd mBegin mFaultAt mActs : Int32} {mWorld mImage mDraft mEarlier mOne mTwo mShare mCrossingOf mBundle mEventOf mDegree mFrom mTo mMet mTape mFive mTold mFar mViews mHullX mHullY mEndX mEndY mMeets mMeetsOf : Nat → Int32} {mX mY mD mHeightUp mHeightLow : Int64} {mEventX mEventY mEventD mUpper mLower : Nat → Int64} {Rw : va_W} {a0 : Int32} {a1 : Int32} {a2 : Int32} {a3 : Int32} {a4 : Int32} {out : Int32 × (Nat → Int32) × (Nat → Int32) × (Nat → Int32) × Int64 × Int64 × Int64} (hf : fX11_hits mWorld mOne mTwo mShare mX mY mD a0 a1 a2 a3 a4 = some out) : Met l yX11_hits (xsWs yX11_hits cX11_hits 6 (some .boolean)) { frames := 4, cells := 0, slots := 0, locals := 119 } (xsP X (wM X mThrown mWorld mImage mDraft mEarlier mRemembered mHasImage mIsLaid mOne mTwo mShare mX mY mD mEventX mEventY mEventD mEvents mCrossingOf mBundle mEventOf mDegree mFrom mTo mCrossings mEdges mMet mUpper mLower mTape mTaped mPoint mEnd mBegin mFaultAt mFive mTold mActs mFar mViews mHullX mHullY mEndX mEndY mHeightUp mHeightLow mMeets mMeetsOf Rw) [.ref (xsA X 100), .int a0, .int a1, .int a2, .int a3, .int a4]) (xsQi X out.1 (wM X mThrown mWorld mImage mDraft mEarlier mRemembered mHasImage mIsLaid out.2.1 out.2.2.1 out.2.2.2.1 out.2.2.2.2.1 out.2.2.2.2.2.1 out.2.2.2.2.2.2 mEventX mEventY mEventD mEvents mCrossingOf mBundle mEventOf mDegree mFrom mTo mCrossings mEdges mMet mUpper mLower mTape mTaped mPoint mEnd mBegin mFaultAt mFive mTold mActs mFar mViews mHullX mHullY mEndX mEndY mHeightUp mHeightLow mMeets mMeetsOf Rw)) 0 0 (xsF X) := by
  refine xs_meth RX11 (by decide) rfl (Nat.le_of_ble_eq_true rfl) ?_
  intro p e s m below meth c ls H locs C hP hD hS hr hlk hl
  have hx := C.1
  have hb := C.2.1
  have hl : lv_has ls 6 [(0, .ref (xsA X 100)), (1, .int a0), (2, .int a1), (3, .int a2), (4, .int a3), (5, .int a4)] := hl
  obtain ⟨Qq, hQq⟩ : ∃ Qq, Qq = xsQi X out.1 (wM X mThrown mWorld mImage mDraft mEarlier mRemembered mHasImage mIsLaid out.2.1 out.2.2.1 out.2.2.2.1 out.2.2.2.2.1 out.2.2.2.2.2.1 out.2.2.2.2.2.2 mEventX mEventY mEventD mEvents mCrossingOf mBundle mEventOf mDegree mFrom mTo mCrossings mEdges mMet mUpper mLower mTape mTaped mPoint mEnd mBegin mFaultAt mFive mTold mActs mFar mViews mHullX mHullY mEndX mEndY mHeightUp mHeightLow mMeets mMeetsOf Rw) := ⟨_, rfl⟩
  rw [← hQq]
  unfold fX11_hits at hf
  refine lv_aload_n hx hb dX11_hits_0 rfl (lv_at hl 0 rfl) ?_
  refine lv_aload_n hx hb dX11_hits_1 rfl (lv_at hl 0 rfl) ?_
  refine xg_X11_26 C hP dX11_hits_2 ?_
  refine lv_iload_n hx hb dX11_hits_5 rfl (lv_at hl 1 rfl) ?_
  replace hf := xsBd_use hf
  obtain ⟨o1, h2, hf⟩ := hf
  refine xs_callv hS (xs_runV (As := [.ref (xsA X 105), .int a0]) C (mX11_takes l  h2) w_1661 w_1663 w_59 w_115 w_1664 hd_X11_takes ⟨rfl, rfl, Nat.le_of_ble_eq_true rfl, Nat.le_of_ble_eq_true rfl, Nat.zero_le _, Nat.zero_le _⟩ hP hD hS lk_X11 rfl hl.1 rfl (Nat.le_of_ble_eq_true rfl) dX11_hits_6) (fun H locs hP hD hS => ?_)
  refine lv_aload_n hx hb dX11_hits_9 rfl (lv_at hl 0 rfl) ?_
  refine lv_iload_n hx hb dX11_hits_10 rfl (lv_at hl 2 rfl) ?_
  refine lv_iload_n hx hb dX11_hits_11 rfl (lv_at hl 3 rfl) ?_
  refine lv_iload hx hb dX11_hits_12 (lv_at hl 4 rfl) ?_
  refine lv_iload hx hb dX11_hits_14 (lv_at hl 5 rfl) ?_
  replace hf := xsBd_use hf
  obtain ⟨o3, h4, hf⟩ := hf
  refine xs_callv hS (xs_runV (As := [.int a1, .int a2, .int a3, .int a4]) C (mX11_takesStretch l  h4) w_1916 w_1918 w_94 w_115 w_1919 hd_X11_takesStretch ⟨rfl, rfl, Nat.le_of_ble_eq_true rfl, Nat.le_of_ble_eq_true rfl, Nat.zero_le _, Nat.zero_le _⟩ hP hD hS lk_X11 rfl hl.1 rfl (Nat.le_of_ble_eq_true rfl) dX11_hits_16) (fun H locs hP hD hS => ?_)
  refine lv_aload_n hx hb dX11_hits_19 rfl (lv_at hl 0 rfl) ?_
  replace hf := xsBd_use hf
  obtain ⟨o5, h6, hf⟩ := hf
  refine xs_calli hS (xs_runV (As := []) C (mX11_shares l  h6) w_1665 w_1667 w_60 w_115 w_1668 hd_X11_shares ⟨rfl, rfl, Nat.le_of_ble_eq_true rfl, Nat.le_of_ble_eq_true rfl, Nat.zero_le _, Nat.zero_le _⟩ hP hD hS lk_X11 rfl hl.1 rfl (Nat.le_of_ble_eq_true rfl) dX11_hits_20) (fun H locs hP hD hS => ?_)
  refine lv_if_eq (tgt := 30) hx hb dX11_hits_23 (by decide) (fun c7 => ?_) (fun c7 => ?_)
  · replace hf := xsBr_t c7 hf
    refine lv_iconst (v := (0 : Int32)) hx hb dX11_hits_30 (by decide) ?_
    have ho := Option.some.inj hf
    subst ho
    rw [hQq]
    exact xs_zret C hr hlk xsB_0 hP hD hS dX11_hits_31
  · replace hf := xsBr_f c7 hf
    refine lv_iconst (v := (1 : Int32)) hx hb dX11_hits_26 (by decide) ?_
    refine lv_goto (tgt := 31) hx hb dX11_hits_27 (by decide) ?_
    have ho := Option.some.inj hf
    subst ho
    rw [hQq]
    exact xs_zret C hr hlk xsB_1 hP hD hS dX11_hits_31
set_option maxRecDepth 100000 in
set_option maxHeartbeats 8000000 in
theorem mX11_box (l : Launch) {X : xsX} {mThrown mRemembered mHasImage mIsLaid mEvents mCrossings mEdges mTaped mPoint mEnd mBegin mFaultAt mActs : Int32} {mWorld mImage mDraft mEarlier mOne mTwo mShare mCrossingOf mBundle mEventOf mDegree mFrom mTo mMet mTape mFive mTold mFar mViews mHullX mHullY mEndX mEndY mMeets mMeetsOf : Nat → Int32} {mX mY mD mHeightUp mHeightLow : Int64} {mEventX mEventY mEventD mUpper mLower : Nat → Int64} {Rw : va_W} {a0 : Int32} {a1 : Int32} {a2 : Int32} {a3 : Int32} {out : Int32 × Int32 × (Nat → Int32) × (Nat → Int32) × (Nat → Int32) × Int64 × Int64 × Int64} (hf : fX11_box mThrown mWorld mOne mTwo mShare mX mY mD a0 a1 a2 a3 = some out) : Met l yX11_box (xsWs yX11_box cX11_box 8 (some .int)) { frames := 5, cells := 0, slots := 0, locals := 144 } (xsP X (wM X mThrown mWorld mImage mDraft mEarlier mRemembered mHasImage mIsLaid mOne mTwo mShare mX mY mD mEventX mEventY mEventD mEvents mCrossingOf mBundle mEventOf mDegree mFrom mTo mCrossings mEdges mMet mUpper mLower mTape mTaped mPoint mEnd mBegin mFaultAt mFive mTold mActs mFar mViews mHullX mHullY mEndX mEndY mHeightUp mHeightLow mMeets mMeetsOf Rw) [.ref (xsA X 100), .int a0, .int a1, .int a2, .int a3]) (xsQi X out.1 (wM X out.2.1 mWorld mImage mDraft mEarlier mRemembered mHasImage mIsLaid out.2.2.1 out.2.2.2.1 out.2.2.2.2.1 out.2.2.2.2.2.1 out.2.2.2.2.2.2.1 out.2.2.2.2.2.2.2 mEventX mEventY mEventD mEvents mCrossingOf mBundle mEventOf mDegree mFrom mTo mCrossings mEdges mMet mUpper mLower mTape mTaped mPoint mEnd mBegin mFaultAt mFive mTold mActs mFar mViews mHullX mHullY mEndX mEndY mHeightUp mHeightLow mMeets mMeetsOf Rw)) 0 0 (xsF X) := by
  refine xs_meth RX11 (by decide) rfl (Nat.le_of_ble_eq_true rfl) ?_
  intro p e s m below meth c ls H locs C hP hD hS hr hlk hl
  have hx := C.1
  have hb := C.2.1
  have hl : lv_has ls 8 [(0, .ref (xsA X 100)), (1, .int a0), (2, .int a1), (3, .int a2), (4, .int a3)] := hl
  obtain ⟨Qq, hQq⟩ : ∃ Qq, Qq = xsQi X out.1 (wM X out.2.1 mWorld mImage mDraft mEarlier mRemembered mHasImage mIsLaid out.2.2.1 out.2.2.2.1 out.2.2.2.2.1 out.2.2.2.2.2.1 out.2.2.2.2.2.2.1 out.2.2.2.2.2.2.2 mEventX mEventY mEventD mEvents mCrossingOf mBundle mEventOf mDegree mFrom mTo mCrossings mEdges mMet mUpper mLower mTape mTaped mPoint mEnd mBegin mFaultAt mFive mTold mActs mFar mViews mHullX mHullY mEndX mEndY mHeightUp mHeightLow mMeets mMeetsOf Rw) := ⟨_, rfl⟩
  rw [← hQq]
  unfold fX11_box at hf
  refine lv_aload_n hx hb dX11_box_0 rfl (lv_at hl 0 rfl) ?_
  refine lv_iconst (v := (0 : Int32)) hx hb dX11_box_1 (by decide) ?_
  refine xp_X11_3 C hP hD hS dX11_box_2 (fun H locs hP hD hS => ?_)
  refine lv_aload_n hx hb dX11_box_5 rfl (lv_at hl 0 rfl) ?_
  refine lv_iload_n hx hb dX11_box_6 rfl (lv_at hl 1 rfl) ?_
  refine lv_iload_n hx hb dX11_box_7 rfl (lv_at hl 2 rfl) ?_
  replace hf := xsBd_use hf
  obtain ⟨o1, h2, hf⟩ := hf
  refine xs_calli hS (xs_runS (As := [.int a0, .int a1]) C (mX11_isPlace l  h2) w_1627 w_1628 w_115 w_1629 hd_X11_isPlace ⟨rfl, rfl, Nat.le_of_ble_eq_true rfl, Nat.le_of_ble_eq_true rfl, Nat.zero_le _, Nat.zero_le _⟩ hP hD hS hl.1 rfl (Nat.le_of_ble_eq_true rfl) dX11_box_8) (fun H locs hP hD hS => ?_)
  have K72 : ∀ (y3 : Int32) (hf : fX11_box_J39 mWorld mOne mTwo mShare mX mY mD a0 a1 a2 a3 y3 = some out) (H : Heap) (locs : List Loc) (ls : Array Slot), va_P (xsD X) vwCl (wM X (0 : Int32) mWorld mImage mDraft mEarlier mRemembered mHasImage mIsLaid mOne mTwo mShare mX mY mD mEventX mEventY mEventD mEvents mCrossingOf mBundle mEventOf mDegree mFrom mTo mCrossings mEdges mMet mUpper mLower mTape mTaped mPoint mEnd mBegin mFaultAt mFive mTold mActs mFar mViews mHullX mHullY mEndX mEndY mHeightUp mHeightLow mMeets mMeetsOf Rw) H → va_D (xsF X) (wM X (0 : Int32) mWorld mImage mDraft mEarlier mRemembered mHasImage mIsLaid mOne mTwo mShare mX mY mD mEventX mEventY mEventD mEvents mCrossingOf mBundle mEventOf mDegree mFrom mTo mCrossings mEdges mMet mUpper mLower mTape mTaped mPoint mEnd mBegin mFaultAt mFive mTold mActs mFar mViews mHullX mHullY mEndX mEndY mHeightUp mHeightLow mMeets mMeetsOf Rw) → va_S (xsF X) s.heap H locs → lv_has ls 8 [(0, .ref (xsA X 100)), (1, .int a0), (2, .int a1), (3, .int a2), (4, .int a3)] → W p l e { frames := 5, cells := 0, slots := 0, locals := 144 } s m ([.ref (xsA X 100), .int a0, .int a1, .int a2, .int a3] : List Value).toArray below meth c H locs 0 0 (MQ below Qq ([.ref (xsA X 100), .int a0, .int a1, .int a2, .int a3] : List Value).toArray s 0 0 (xsF X)) (F0 m 39 ls [.int y3, .ref (xsA X 100)]) := by
    intro y3 hf H locs ls hP hD hS hl
    unfold fX11_box_J39 at hf
    refine lv_iconst (v := (1 : Int32)) hx hb dX11_box_39 (by decide) ?_
    replace hf := xsBd_use hf
    obtain ⟨o4, h5, hf⟩ := hf
    refine xs_calli hS (xs_runV (As := [.int y3, .int (1 : Int32)]) C (mX11_throwsIf l  h5) w_1502 w_1504 w_33 w_115 w_1505 hd_X11_throwsIf ⟨rfl, rfl, Nat.le_of_ble_eq_true rfl, Nat.le_of_ble_eq_true rfl, Nat.zero_le _, Nat.zero_le _⟩ hP hD hS lk_X11 rfl hl.1 rfl (Nat.le_of_ble_eq_true rfl) dX11_box_40) (fun H locs hP hD hS => ?_)
    refine lv_if_eq (tgt := 48) hx hb dX11_box_43 (by decide) (fun c69 => ?_) (fun c69 => ?_)
    · replace hf := xsBr_t c69 hf
      refine lv_iconst (v := (0 : Int32)) hx hb dX11_box_48 (by decide) ?_
      refine lv_istore (lv' := [(5, .int (0 : Int32)), (0, .ref (xsA X 100)), (1, .int a0), (2, .int a1), (3, .int a2), (4, .int a3)]) hx hb dX11_box_49 hl (by decide) rfl (fun ls hl => ?_)
      refine lv_iconst (v := (0 : Int32)) hx hb dX11_box_51 (by decide) ?_
      refine lv_istore (lv' := [(6, .int (0 : Int32)), (5, .int (0 : Int32)), (0, .ref (xsA X 100)), (1, .int a0), (2, .int a1), (3, .int a2), (4, .int a3)]) hx hb dX11_box_52 hl (by decide) rfl (fun ls hl => ?_)
      have K14 : ∀ (y15 : Int32) (y16 : Nat → Int32) (y17 : Nat → Int32) (y18 : Nat → Int32) (y19 : Int64) (y20 : Int64) (y21 : Int64) (hf : fX11_box_J199 o4 y15 y16 y17 y18 y19 y20 y21 = some out) (H : Heap) (locs : List Loc) (ls : Array Slot), va_P (xsD X) vwCl (wM X o4.2 mWorld mImage mDraft mEarlier mRemembered mHasImage mIsLaid y16 y17 y18 y19 y20 y21 mEventX mEventY mEventD mEvents mCrossingOf mBundle mEventOf mDegree mFrom mTo mCrossings mEdges mMet mUpper mLower mTape mTaped mPoint mEnd mBegin mFaultAt mFive mTold mActs mFar mViews mHullX mHullY mEndX mEndY mHeightUp mHeightLow mMeets mMeetsOf Rw) H → va_D (xsF X) (wM X o4.2 mWorld mImage mDraft mEarlier mRemembered mHasImage mIsLaid y16 y17 y18 y19 y20 y21 mEventX mEventY mEventD mEvents mCrossingOf mBundle mEventOf mDegree mFrom mTo mCrossings mEdges mMet mUpper mLower mTape mTaped mPoint mEnd mBegin mFaultAt mFive mTold mActs mFar mViews mHullX mHullY mEndX mEndY mHeightUp mHeightLow mMeets mMeetsOf Rw) → va_S (xsF X) s.heap H locs → lv_has ls 8 [(5, .int y15)] → W p l e { frames := 5, cells := 0, slots := 0, locals := 144 } s m ([.ref (xsA X 100), .int a0, .int a1, .int a2, .int a3] : List Value).toArray below meth c H locs 0 0 (MQ below Qq ([.ref (xsA X 100), .int a0, .int a1, .int a2, .int a3] : List Value).toArray s 0 0 (xsF X)) (F0 m 199 ls []) := by
        intro y15 y16 y17 y18 y19 y20 y21 hf H locs ls hP hD hS hl
        unfold fX11_box_J199 at hf
        refine lv_iload hx hb dX11_box_199 (lv_at hl 0 rfl) ?_
        have ho := Option.some.inj hf
        subst ho
        rw [hQq]
        exact xs_iret C hr hlk hP hD hS dX11_box_201
      replace hf := xsBd_use hf
      obtain ⟨r14, hk140, hf⟩ := hf
      have L14 : ∀ (sg : Int32 × Int32 × (Nat → Int32) × (Nat → Int32) × (Nat → Int32) × Int64 × Int64 × Int64) (rg : Int32 × (Nat → Int32) × (Nat → Int32) × (Nat → Int32) × Int64 × Int64 × Int64), xsWh (fun s14 => fX11_box_L54 mWorld a0 a1 a2 a3 s14.1 s14.2.1 s14.2.2.1 s14.2.2.2.1 s14.2.2.2.2.1 s14.2.2.2.2.2.1 s14.2.2.2.2.2.2.1 s14.2.2.2.2.2.2.2) sg = some rg → (fX11_box_J199 o4 rg.1 rg.2.1 rg.2.2.1 rg.2.2.2.1 rg.2.2.2.2.1 rg.2.2.2.2.2.1 rg.2.2.2.2.2.2 = some out → ∀ (H : Heap) (locs : List Loc) (ls : Array Slot), va_P (xsD X) vwCl (wM X o4.2 mWorld mImage mDraft mEarlier mRemembered mHasImage mIsLaid sg.2.2.1 sg.2.2.2.1 sg.2.2.2.2.1 sg.2.2.2.2.2.1 sg.2.2.2.2.2.2.1 sg.2.2.2.2.2.2.2 mEventX mEventY mEventD mEvents mCrossingOf mBundle mEventOf mDegree mFrom mTo mCrossings mEdges mMet mUpper mLower mTape mTaped mPoint mEnd mBegin mFaultAt mFive mTold mActs mFar mViews mHullX mHullY mEndX mEndY mHeightUp mHeightLow mMeets mMeetsOf Rw) H → va_D (xsF X) (wM X o4.2 mWorld mImage mDraft mEarlier mRemembered mHasImage mIsLaid sg.2.2.1 sg.2.2.2.1 sg.2.2.2.2.1 sg.2.2.2.2.2.1 sg.2.2.2.2.2.2.1 sg.2.2.2.2.2.2.2 mEventX mEventY mEventD mEvents mCrossingOf mBundle mEventOf mDegree mFrom mTo mCrossings mEdges mMet mUpper mLower mTape mTaped mPoint mEnd mBegin mFaultAt mFive mTold mActs mFar mViews mHullX mHullY mEndX mEndY mHeightUp mHeightLow mMeets mMeetsOf Rw) → va_S (xsF X) s.heap H locs → lv_has ls 8 [(0, .ref (xsA X 100)), (1, .int a0), (2, .int a1), (3, .int a2), (4, .int a3), (5, .int sg.1), (6, .int sg.2.1)] → W p l e { frames := 5, cells := 0, slots := 0, locals := 144 } s m ([.ref (xsA X 100), .int a0, .int a1, .int a2, .int a3] : List Value).toArray below meth c H locs 0 0 (MQ below Qq ([.ref (xsA X 100), .int a0, .int a1, .int a2, .int a3] : List Value).toArray s 0 0 (xsF X)) (F0 m 54 ls [])) := by
        refine xsWh_ind ?_
        intro sg r14 u14 hf ih14 hx14 hk14 H locs ls hP hD hS hl
        obtain ⟨y6, y7, y8, y9, y10, y11, y12, y13⟩ := sg
        replace hf : fX11_box_L54 mWorld a0 a1 a2 a3 y6 y7 y8 y9 y10 y11 y12 y13 = some u14 := hf
        replace hl : lv_has ls 8 [(0, .ref (xsA X 100)), (1, .int a0), (2, .int a1), (3, .int a2), (4, .int a3), (5, .int y6), (6, .int y7)] := hl
        replace hP : va_P (xsD X) vwCl (wM X o4.2 mWorld mImage mDraft mEarlier mRemembered mHasImage mIsLaid y8 y9 y10 y11 y12 y13 mEventX mEventY mEventD mEvents mCrossingOf mBundle mEventOf mDegree mFrom mTo mCrossings mEdges mMet mUpper mLower mTape mTaped mPoint mEnd mBegin mFaultAt mFive mTold mActs mFar mViews mHullX mHullY mEndX mEndY mHeightUp mHeightLow mMeets mMeetsOf Rw) H := hP
        replace hD : va_D (xsF X) (wM X o4.2 mWorld mImage mDraft mEarlier mRemembered mHasImage mIsLaid y8 y9 y10 y11 y12 y13 mEventX mEventY mEventD mEvents mCrossingOf mBundle mEventOf mDegree mFrom mTo mCrossings mEdges mMet mUpper mLower mTape mTaped mPoint mEnd mBegin mFaultAt mFive mTold mActs mFar mViews mHullX mHullY mEndX mEndY mHeightUp mHeightLow mMeets mMeetsOf Rw) := hD
        unfold fX11_box_L54 at hf
        refine lv_iload hx hb dX11_box_54 (lv_at hl 6 rfl) ?_
        refine lv_aload_n hx hb dX11_box_56 rfl (lv_at hl 0 rfl) ?_
        replace hf := xsBd_use hf
        obtain ⟨o22, h23, hf⟩ := hf
        refine xs_calli hS (xs_runV (As := []) C (mX11_many l  h23) w_1581 w_1583 w_44 w_115 w_1584 hd_X11_many ⟨rfl, rfl, Nat.le_of_ble_eq_true rfl, Nat.le_of_ble_eq_true rfl, Nat.zero_le _, Nat.zero_le _⟩ hP hD hS lk_X11 rfl hl.1 rfl (Nat.le_of_ble_eq_true rfl) dX11_box_57) (fun H locs hP hD hS => ?_)
        refine lv_icmp_ge (tgt := 199) hx hb dX11_box_60 (by decide) (fun c68 => ?_) (fun c68 => ?_)
        · replace hf := xsBr_t c68 hf
          have ez := hx14 _ (Option.some.inj hf).symm
          subst ez
          exact K14 y6 y8 y9 y10 y11 y12 y13 hk14 H locs ls hP hD hS (lv_sub hl [5] rfl)
        · replace hf := xsBr_f c68 hf
          refine lv_aload_n hx hb dX11_box_63 rfl (lv_at hl 0 rfl) ?_
          refine lv_iload hx hb dX11_box_64 (lv_at hl 6 rfl) ?_
          refine lv_iconst (v := (0 : Int32)) hx hb dX11_box_66 (by decide) ?_
          replace hf := xsBd_use hf
          obtain ⟨o24, h25, hf⟩ := hf
          refine xs_calli hS (xs_runV (As := [.int y7, .int (0 : Int32)]) C (mX11_of l  h25) w_1608 w_1610 w_50 w_115 w_1611 hd_X11_of ⟨rfl, rfl, Nat.le_of_ble_eq_true rfl, Nat.le_of_ble_eq_true rfl, Nat.zero_le _, Nat.zero_le _⟩ hP hD hS lk_X11 rfl hl.1 rfl (Nat.le_of_ble_eq_true rfl) dX11_box_67) (fun H locs hP hD hS => ?_)
          refine lv_i2l hx hb dX11_box_70 rfl ?_
          refine lv_iload_n hx hb dX11_box_71 rfl (lv_at hl 1 rfl) ?_
          refine lv_i2l hx hb dX11_box_72 rfl ?_
          refine lv_iload_n hx hb dX11_box_73 rfl (lv_at hl 3 rfl) ?_
          refine lv_i2l hx hb dX11_box_74 rfl ?_
          replace hf := xsBd_use hf
          obtain ⟨o26, h27, hf⟩ := hf
          refine xs_calli hS (xs_runS (As := [.long o24.toInt64, .long a0.toInt64, .long a2.toInt64]) C (mX11_in l  h27) w_1573 w_1574 w_115 w_1575 hd_X11_in ⟨rfl, rfl, Nat.le_of_ble_eq_true rfl, Nat.le_of_ble_eq_true rfl, Nat.zero_le _, Nat.zero_le _⟩ hP hD hS hl.1 rfl (Nat.le_of_ble_eq_true rfl) dX11_box_75) (fun H locs hP hD hS => ?_)
          have K61 : ∀ (y28 : Int32) (hf : fX11_box_J105 mWorld a0 a1 a2 a3 y6 y7 y8 y9 y10 y11 y12 y13 y28 = some u14) (H : Heap) (locs : List Loc) (ls : Array Slot), va_P (xsD X) vwCl (wM X o4.2 mWorld mImage mDraft mEarlier mRemembered mHasImage mIsLaid y8 y9 y10 y11 y12 y13 mEventX mEventY mEventD mEvents mCrossingOf mBundle mEventOf mDegree mFrom mTo mCrossings mEdges mMet mUpper mLower mTape mTaped mPoint mEnd mBegin mFaultAt mFive mTold mActs mFar mViews mHullX mHullY mEndX mEndY mHeightUp mHeightLow mMeets mMeetsOf Rw) H → va_D (xsF X) (wM X o4.2 mWorld mImage mDraft mEarlier mRemembered mHasImage mIsLaid y8 y9 y10 y11 y12 y13 mEventX mEventY mEventD mEvents mCrossingOf mBundle mEventOf mDegree mFrom mTo mCrossings mEdges mMet mUpper mLower mTape mTaped mPoint mEnd mBegin mFaultAt mFive mTold mActs mFar mViews mHullX mHullY mEndX mEndY mHeightUp mHeightLow mMeets mMeetsOf Rw) → va_S (xsF X) s.heap H locs → lv_has ls 8 [(0, .ref (xsA X 100)), (1, .int a0), (2, .int a1), (3, .int a2), (4, .int a3), (5, .int y6), (6, .int y7)] → W p l e { frames := 5, cells := 0, slots := 0, locals := 144 } s m ([.ref (xsA X 100), .int a0, .int a1, .int a2, .int a3] : List Value).toArray below meth c H locs 0 0 (MQ below Qq ([.ref (xsA X 100), .int a0, .int a1, .int a2, .int a3] : List Value).toArray s 0 0 (xsF X)) (F0 m 105 ls [.int y28]) := by
            intro y28 hf H locs ls hP hD hS hl
            unfold fX11_box_J105 at hf
            refine lv_istore (lv' := [(7, .int y28), (0, .ref (xsA X 100)), (1, .int a0), (2, .int a1), (3, .int a2), (4, .int a3), (5, .int y6), (6, .int y7)]) hx hb dX11_box_105 hl (by decide) rfl (fun ls hl => ?_)
            refine lv_iload hx hb dX11_box_107 (lv_at hl 0 rfl) ?_
            have K45 : ∀ (y29 : Int32) (y30 : Nat → Int32) (y31 : Nat → Int32) (y32 : Nat → Int32) (y33 : Int64) (y34 : Int64) (y35 : Int64) (hf : fX11_box_J173 y6 y7 y29 y30 y31 y32 y33 y34 y35 = some u14) (H : Heap) (locs : List Loc) (ls : Array Slot), va_P (xsD X) vwCl (wM X o4.2 mWorld mImage mDraft mEarlier mRemembered mHasImage mIsLaid y30 y31 y32 y33 y34 y35 mEventX mEventY mEventD mEvents mCrossingOf mBundle mEventOf mDegree mFrom mTo mCrossings mEdges mMet mUpper mLower mTape mTaped mPoint mEnd mBegin mFaultAt mFive mTold mActs mFar mViews mHullX mHullY mEndX mEndY mHeightUp mHeightLow mMeets mMeetsOf Rw) H → va_D (xsF X) (wM X o4.2 mWorld mImage mDraft mEarlier mRemembered mHasImage mIsLaid y30 y31 y32 y33 y34 y35 mEventX mEventY mEventD mEvents mCrossingOf mBundle mEventOf mDegree mFrom mTo mCrossings mEdges mMet mUpper mLower mTape mTaped mPoint mEnd mBegin mFaultAt mFive mTold mActs mFar mViews mHullX mHullY mEndX mEndY mHeightUp mHeightLow mMeets mMeetsOf Rw) → va_S (xsF X) s.heap H locs → lv_has ls 8 [(0, .ref (xsA X 100)), (1, .int a0), (2, .int a1), (3, .int a2), (4, .int a3), (5, .int y6), (6, .int y7)] → W p l e { frames := 5, cells := 0, slots := 0, locals := 144 } s m ([.ref (xsA X 100), .int a0, .int a1, .int a2, .int a3] : List Value).toArray below meth c H locs 0 0 (MQ below Qq ([.ref (xsA X 100), .int a0, .int a1, .int a2, .int a3] : List Value).toArray s 0 0 (xsF X)) (F0 m 173 ls [.int y29]) := by
              intro y29 y30 y31 y32 y33 y34 y35 hf H locs ls hP hD hS hl
              unfold fX11_box_J173 at hf
              refine lv_istore (lv' := [(7, .int y29), (0, .ref (xsA X 100)), (1, .int a0), (2, .int a1), (3, .int a2), (4, .int a3), (5, .int y6), (6, .int y7)]) hx hb dX11_box_173 hl (by decide) rfl (fun ls hl => ?_)
              refine lv_iload hx hb dX11_box_175 (lv_at hl 6 rfl) ?_
              refine lv_iload hx hb dX11_box_177 (lv_at hl 0 rfl) ?_
              have K41 : ∀ (y36 : Int32) (hf : fX11_box_J190 y6 y7 y30 y31 y32 y33 y34 y35 y36 = some u14) (H : Heap) (locs : List Loc) (ls : Array Slot), va_P (xsD X) vwCl (wM X o4.2 mWorld mImage mDraft mEarlier mRemembered mHasImage mIsLaid y30 y31 y32 y33 y34 y35 mEventX mEventY mEventD mEvents mCrossingOf mBundle mEventOf mDegree mFrom mTo mCrossings mEdges mMet mUpper mLower mTape mTaped mPoint mEnd mBegin mFaultAt mFive mTold mActs mFar mViews mHullX mHullY mEndX mEndY mHeightUp mHeightLow mMeets mMeetsOf Rw) H → va_D (xsF X) (wM X o4.2 mWorld mImage mDraft mEarlier mRemembered mHasImage mIsLaid y30 y31 y32 y33 y34 y35 mEventX mEventY mEventD mEvents mCrossingOf mBundle mEventOf mDegree mFrom mTo mCrossings mEdges mMet mUpper mLower mTape mTaped mPoint mEnd mBegin mFaultAt mFive mTold mActs mFar mViews mHullX mHullY mEndX mEndY mHeightUp mHeightLow mMeets mMeetsOf Rw) → va_S (xsF X) s.heap H locs → lv_has ls 8 [(0, .ref (xsA X 100)), (1, .int a0), (2, .int a1), (3, .int a2), (4, .int a3), (6, .int y7)] → W p l e { frames := 5, cells := 0, slots := 0, locals := 144 } s m ([.ref (xsA X 100), .int a0, .int a1, .int a2, .int a3] : List Value).toArray below meth c H locs 0 0 (MQ below Qq ([.ref (xsA X 100), .int a0, .int a1, .int a2, .int a3] : List Value).toArray s 0 0 (xsF X)) (F0 m 190 ls [.int y36, .int y6]) := by
                intro y36 hf H locs ls hP hD hS hl
                unfold fX11_box_J190 at hf
                refine lv_ior hx hb dX11_box_190 ?_
                refine lv_topi (fun x37 ex37 => ?_)
                replace hf := xsLt_use ex37 hf
                refine lv_istore (lv' := [(5, .int x37), (0, .ref (xsA X 100)), (1, .int a0), (2, .int a1), (3, .int a2), (4, .int a3), (6, .int y7)]) hx hb dX11_box_191 hl (by decide) rfl (fun ls hl => ?_)
                obtain ⟨x38, ex38⟩ : ∃ y : Int32, y = y7 + (1 : Int32) := ⟨_, rfl⟩
                replace hf := xsLt_use ex38 hf
                refine lv_iinc (v := x38) (lv' := [(6, .int x38), (5, .int x37), (0, .ref (xsA X 100)), (1, .int a0), (2, .int a1), (3, .int a2), (4, .int a3)]) hx hb dX11_box_193 hl (k := 6) rfl (by rw [ex38]; rfl) (by decide) rfl (fun ls hl => ?_)
                refine lv_goto (tgt := 54) hx hb dX11_box_196 (by decide) ?_
                exact ih14 _ (Option.some.inj hf).symm hk14 H locs ls hP hD hS (lv_sub hl [2, 3, 4, 5, 6, 1, 0] rfl)
              replace hf := xsBd_use hf
              obtain ⟨v39, hf, hk40⟩ := hf
              refine lv_if_eq (tgt := 189) hx hb dX11_box_179 (by decide) (fun c42 => ?_) (fun c42 => ?_)
              · replace hf := xsBr_t c42 hf
                refine lv_iconst (v := (0 : Int32)) hx hb dX11_box_189 (by decide) ?_
                have ev := Option.some.inj hf
                subst ev
                exact K41 (0 : Int32) hk40 H locs ls hP hD hS (lv_sub hl [1, 2, 3, 4, 5, 7] rfl)
              · replace hf := xsBr_f c42 hf
                refine lv_iconst (v := (1 : Int32)) hx hb dX11_box_182 (by decide) ?_
                refine lv_iload hx hb dX11_box_183 (lv_at hl 7 rfl) ?_
                refine lv_ishl hx hb dX11_box_185 ?_
                refine lv_goto (tgt := 190) hx hb dX11_box_186 (by decide) ?_
                have ev := Option.some.inj hf
                subst ev
                exact K41 ((1 : Int32) <<< (y7 &&& 31)) hk40 H locs ls hP hD hS (lv_sub hl [1, 2, 3, 4, 5, 7] rfl)
            replace hf := xsBd_use hf
            obtain ⟨v43, hf, hk44⟩ := hf
            refine lv_if_ne (tgt := 168) hx hb dX11_box_109 (by decide) (fun c58 => ?_) (fun c58 => ?_)
            · replace hf := xsBr_f c58 hf
              refine lv_iconst (v := (1 : Int32)) hx hb dX11_box_168 (by decide) ?_
              refine lv_goto (tgt := 173) hx hb dX11_box_169 (by decide) ?_
              have ev := Option.some.inj hf
              subst ev
              exact K45 (1 : Int32) y8 y9 y10 y11 y12 y13 hk44 H locs ls hP hD hS (lv_sub hl [1, 2, 3, 4, 5, 6, 7] rfl)
            · replace hf := xsBr_t c58 hf
              refine lv_aload_n hx hb dX11_box_112 rfl (lv_at hl 1 rfl) ?_
              refine lv_iload hx hb dX11_box_113 (lv_at hl 7 rfl) ?_
              refine lv_iload_n hx hb dX11_box_115 rfl (lv_at hl 2 rfl) ?_
              refine lv_iload_n hx hb dX11_box_116 rfl (lv_at hl 3 rfl) ?_
              refine lv_iload_n hx hb dX11_box_117 rfl (lv_at hl 4 rfl) ?_
              refine lv_iload_n hx hb dX11_box_118 rfl (lv_at hl 3 rfl) ?_
              replace hf := xsBd_use hf
              obtain ⟨o46, h47, hf⟩ := hf
              refine xs_calli hS (xs_runV (As := [.int y7, .int a0, .int a1, .int a2, .int a1]) C (mX11_hits l  h47) w_1929 w_1931 w_96 w_115 w_1932 hd_X11_hits ⟨rfl, rfl, Nat.le_of_ble_eq_true rfl, Nat.le_of_ble_eq_true rfl, Nat.zero_le _, Nat.zero_le _⟩ hP hD hS lk_X11 rfl hl.1 rfl (Nat.le_of_ble_eq_true rfl) dX11_box_119) (fun H locs hP hD hS => ?_)
              refine lv_if_ne (tgt := 168) hx hb dX11_box_122 (by decide) (fun c57 => ?_) (fun c57 => ?_)
              · replace hf := xsBr_f c57 hf
                refine lv_iconst (v := (1 : Int32)) hx hb dX11_box_168 (by decide) ?_
                refine lv_goto (tgt := 173) hx hb dX11_box_169 (by decide) ?_
                have ev := Option.some.inj hf
                subst ev
                exact K45 (1 : Int32) o46.2.1 o46.2.2.1 o46.2.2.2.1 o46.2.2.2.2.1 o46.2.2.2.2.2.1 o46.2.2.2.2.2.2 hk44 H locs ls hP hD hS (lv_sub hl [1, 2, 3, 4, 5, 6, 7] rfl)
              · replace hf := xsBr_t c57 hf
                refine lv_aload_n hx hb dX11_box_125 rfl (lv_at hl 1 rfl) ?_
                refine lv_iload hx hb dX11_box_126 (lv_at hl 7 rfl) ?_
                refine lv_iload_n hx hb dX11_box_128 rfl (lv_at hl 2 rfl) ?_
                refine lv_iload hx hb dX11_box_129 (lv_at hl 5 rfl) ?_
                refine lv_iload_n hx hb dX11_box_131 rfl (lv_at hl 4 rfl) ?_
                refine lv_iload hx hb dX11_box_132 (lv_at hl 5 rfl) ?_
                replace hf := xsBd_use hf
                obtain ⟨o48, h49, hf⟩ := hf
                refine xs_calli hS (xs_runV (As := [.int y7, .int a0, .int a3, .int a2, .int a3]) C (mX11_hits l  h49) w_1929 w_1931 w_96 w_115 w_1932 hd_X11_hits ⟨rfl, rfl, Nat.le_of_ble_eq_true rfl, Nat.le_of_ble_eq_true rfl, Nat.zero_le _, Nat.zero_le _⟩ hP hD hS lk_X11 rfl hl.1 rfl (Nat.le_of_ble_eq_true rfl) dX11_box_134) (fun H locs hP hD hS => ?_)
                refine lv_if_ne (tgt := 168) hx hb dX11_box_137 (by decide) (fun c56 => ?_) (fun c56 => ?_)
                · replace hf := xsBr_f c56 hf
                  refine lv_iconst (v := (1 : Int32)) hx hb dX11_box_168 (by decide) ?_
                  refine lv_goto (tgt := 173) hx hb dX11_box_169 (by decide) ?_
                  have ev := Option.some.inj hf
                  subst ev
                  exact K45 (1 : Int32) o48.2.1 o48.2.2.1 o48.2.2.2.1 o48.2.2.2.2.1 o48.2.2.2.2.2.1 o48.2.2.2.2.2.2 hk44 H locs ls hP hD hS (lv_sub hl [1, 2, 3, 4, 5, 6, 7] rfl)
                · replace hf := xsBr_t c56 hf
                  refine lv_aload_n hx hb dX11_box_140 rfl (lv_at hl 1 rfl) ?_
                  refine lv_iload hx hb dX11_box_141 (lv_at hl 7 rfl) ?_
                  refine lv_iload_n hx hb dX11_box_143 rfl (lv_at hl 2 rfl) ?_
                  refine lv_iload_n hx hb dX11_box_144 rfl (lv_at hl 3 rfl) ?_
                  refine lv_iload_n hx hb dX11_box_145 rfl (lv_at hl 2 rfl) ?_
                  refine lv_iload hx hb dX11_box_146 (lv_at hl 5 rfl) ?_
                  replace hf := xsBd_use hf
                  obtain ⟨o50, h51, hf⟩ := hf
                  refine xs_calli hS (xs_runV (As := [.int y7, .int a0, .int a1, .int a0, .int a3]) C (mX11_hits l  h51) w_1929 w_1931 w_96 w_115 w_1932 hd_X11_hits ⟨rfl, rfl, Nat.le_of_ble_eq_true rfl, Nat.le_of_ble_eq_true rfl, Nat.zero_le _, Nat.zero_le _⟩ hP hD hS lk_X11 rfl hl.1 rfl (Nat.le_of_ble_eq_true rfl) dX11_box_148) (fun H locs hP hD hS => ?_)
                  refine lv_if_ne (tgt := 168) hx hb dX11_box_151 (by decide) (fun c55 => ?_) (fun c55 => ?_)
                  · replace hf := xsBr_f c55 hf
                    refine lv_iconst (v := (1 : Int32)) hx hb dX11_box_168 (by decide) ?_
                    refine lv_goto (tgt := 173) hx hb dX11_box_169 (by decide) ?_
                    have ev := Option.some.inj hf
                    subst ev
                    exact K45 (1 : Int32) o50.2.1 o50.2.2.1 o50.2.2.2.1 o50.2.2.2.2.1 o50.2.2.2.2.2.1 o50.2.2.2.2.2.2 hk44 H locs ls hP hD hS (lv_sub hl [1, 2, 3, 4, 5, 6, 7] rfl)
                  · replace hf := xsBr_t c55 hf
                    refine lv_aload_n hx hb dX11_box_154 rfl (lv_at hl 1 rfl) ?_
                    refine lv_iload hx hb dX11_box_155 (lv_at hl 7 rfl) ?_
                    refine lv_iload_n hx hb dX11_box_157 rfl (lv_at hl 4 rfl) ?_
                    refine lv_iload_n hx hb dX11_box_158 rfl (lv_at hl 3 rfl) ?_
                    refine lv_iload_n hx hb dX11_box_159 rfl (lv_at hl 4 rfl) ?_
                    refine lv_iload hx hb dX11_box_160 (lv_at hl 5 rfl) ?_
                    replace hf := xsBd_use hf
                    obtain ⟨o52, h53, hf⟩ := hf
                    refine xs_calli hS (xs_runV (As := [.int y7, .int a2, .int a1, .int a2, .int a3]) C (mX11_hits l  h53) w_1929 w_1931 w_96 w_115 w_1932 hd_X11_hits ⟨rfl, rfl, Nat.le_of_ble_eq_true rfl, Nat.le_of_ble_eq_true rfl, Nat.zero_le _, Nat.zero_le _⟩ hP hD hS lk_X11 rfl hl.1 rfl (Nat.le_of_ble_eq_true rfl) dX11_box_162) (fun H locs hP hD hS => ?_)
                    refine lv_if_eq (tgt := 172) hx hb dX11_box_165 (by decide) (fun c54 => ?_) (fun c54 => ?_)
                    · replace hf := xsBr_t c54 hf
                      refine lv_iconst (v := (0 : Int32)) hx hb dX11_box_172 (by decide) ?_
                      have ev := Option.some.inj hf
                      subst ev
                      exact K45 (0 : Int32) o52.2.1 o52.2.2.1 o52.2.2.2.1 o52.2.2.2.2.1 o52.2.2.2.2.2.1 o52.2.2.2.2.2.2 hk44 H locs ls hP hD hS (lv_sub hl [1, 2, 3, 4, 5, 6, 7] rfl)
                    · replace hf := xsBr_f c54 hf
                      refine lv_iconst (v := (1 : Int32)) hx hb dX11_box_168 (by decide) ?_
                      refine lv_goto (tgt := 173) hx hb dX11_box_169 (by decide) ?_
                      have ev := Option.some.inj hf
                      subst ev
                      exact K45 (1 : Int32) o52.2.1 o52.2.2.1 o52.2.2.2.1 o52.2.2.2.2.1 o52.2.2.2.2.2.1 o52.2.2.2.2.2.2 hk44 H locs ls hP hD hS (lv_sub hl [1, 2, 3, 4, 5, 6, 7] rfl)
          replace hf := xsBd_use hf
          obtain ⟨v59, hf, hk60⟩ := hf
          refine lv_if_eq (tgt := 104) hx hb dX11_box_78 (by decide) (fun c67 => ?_) (fun c67 => ?_)
          · replace hf := xsBr_t c67 hf
            refine lv_iconst (v := (0 : Int32)) hx hb dX11_box_104 (by decide) ?_
            have ev := Option.some.inj hf
            subst ev
            exact K61 (0 : Int32) hk60 H locs ls hP hD hS (lv_sub hl [0, 1, 2, 3, 4, 5, 6] rfl)
          · replace hf := xsBr_f c67 hf
            refine lv_aload_n hx hb dX11_box_81 rfl (lv_at hl 0 rfl) ?_
            refine lv_iload hx hb dX11_box_82 (lv_at hl 6 rfl) ?_
            refine lv_iconst (v := (1 : Int32)) hx hb dX11_box_84 (by decide) ?_
            replace hf := xsBd_use hf
            obtain ⟨o62, h63, hf⟩ := hf
            refine xs_calli hS (xs_runV (As := [.int y7, .int (1 : Int32)]) C (mX11_of l  h63) w_1608 w_1610 w_50 w_115 w_1611 hd_X11_of ⟨rfl, rfl, Nat.le_of_ble_eq_true rfl, Nat.le_of_ble_eq_true rfl, Nat.zero_le _, Nat.zero_le _⟩ hP hD hS lk_X11 rfl hl.1 rfl (Nat.le_of_ble_eq_true rfl) dX11_box_85) (fun H locs hP hD hS => ?_)
            refine lv_i2l hx hb dX11_box_88 rfl ?_
            refine lv_iload_n hx hb dX11_box_89 rfl (lv_at hl 2 rfl) ?_
            refine lv_i2l hx hb dX11_box_90 rfl ?_
            refine lv_iload hx hb dX11_box_91 (lv_at hl 4 rfl) ?_
            refine lv_i2l hx hb dX11_box_93 rfl ?_
            replace hf := xsBd_use hf
            obtain ⟨o64, h65, hf⟩ := hf
            refine xs_calli hS (xs_runS (As := [.long o62.toInt64, .long a1.toInt64, .long a3.toInt64]) C (mX11_in l  h65) w_1573 w_1574 w_115 w_1575 hd_X11_in ⟨rfl, rfl, Nat.le_of_ble_eq_true rfl, Nat.le_of_ble_eq_true rfl, Nat.zero_le _, Nat.zero_le _⟩ hP hD hS hl.1 rfl (Nat.le_of_ble_eq_true rfl) dX11_box_94) (fun H locs hP hD hS => ?_)
            refine lv_if_eq (tgt := 104) hx hb dX11_box_97 (by decide) (fun c66 => ?_) (fun c66 => ?_)
            · replace hf := xsBr_t c66 hf
              refine lv_iconst (v := (0 : Int32)) hx hb dX11_box_104 (by decide) ?_
              have ev := Option.some.inj hf
              subst ev
              exact K61 (0 : Int32) hk60 H locs ls hP hD hS (lv_sub hl [0, 1, 2, 3, 4, 5, 6] rfl)
            · replace hf := xsBr_f c66 hf
              refine lv_iconst (v := (1 : Int32)) hx hb dX11_box_100 (by decide) ?_
              refine lv_goto (tgt := 105) hx hb dX11_box_101 (by decide) ?_
              have ev := Option.some.inj hf
              subst ev
              exact K61 (1 : Int32) hk60 H locs ls hP hD hS (lv_sub hl [0, 1, 2, 3, 4, 5, 6] rfl)
      exact L14 ((0 : Int32), (0 : Int32), mOne, mTwo, mShare, mX, mY, mD) r14 hk140 hf H locs ls hP hD hS (lv_sub hl [2, 3, 4, 5, 6, 1, 0] rfl)
    · replace hf := xsBr_f c69 hf
      refine lv_iconst (v := (0 : Int32)) hx hb dX11_box_46 (by decide) ?_
      have ho := Option.some.inj hf
      subst ho
      rw [hQq]
      exact xs_iret C hr hlk hP hD hS dX11_box_47
  replace hf := xsBd_use hf
  obtain ⟨v70, hf, hk71⟩ := hf
  refine lv_if_eq (tgt := 34) hx hb dX11_box_11 (by decide) (fun c78 => ?_) (fun c78 => ?_)
  · replace hf := xsBr_t c78 hf
    refine lv_iconst (v := (1 : Int32)) hx hb dX11_box_34 (by decide) ?_
    refine lv_goto (tgt := 39) hx hb dX11_box_35 (by decide) ?_
    have ev := Option.some.inj hf
    subst ev
    exact K72 (1 : Int32) hk71 H locs ls hP hD hS (lv_sub hl [0, 1, 2, 3, 4] rfl)
  · replace hf := xsBr_f c78 hf
    refine lv_iload_n hx hb dX11_box_14 rfl (lv_at hl 3 rfl) ?_
    refine lv_iload hx hb dX11_box_15 (lv_at hl 4 rfl) ?_
    replace hf := xsBd_use hf
    obtain ⟨o73, h74, hf⟩ := hf
    refine xs_calli hS (xs_runS (As := [.int a2, .int a3]) C (mX11_isPlace l  h74) w_1627 w_1628 w_115 w_1629 hd_X11_isPlace ⟨rfl, rfl, Nat.le_of_ble_eq_true rfl, Nat.le_of_ble_eq_true rfl, Nat.zero_le _, Nat.zero_le _⟩ hP hD hS hl.1 rfl (Nat.le_of_ble_eq_true rfl) dX11_box_17) (fun H locs hP hD hS => ?_)
    refine lv_if_eq (tgt := 34) hx hb dX11_box_20 (by decide) (fun c77 => ?_) (fun c77 => ?_)
    · replace hf := xsBr_t c77 hf
      refine lv_iconst (v := (1 : Int32)) hx hb dX11_box_34 (by decide) ?_
      refine lv_goto (tgt := 39) hx hb dX11_box_35 (by decide) ?_
      have ev := Option.some.inj hf
      subst ev
      exact K72 (1 : Int32) hk71 H locs ls hP hD hS (lv_sub hl [0, 1, 2, 3, 4] rfl)
    · replace hf := xsBr_f c77 hf
      refine lv_iload_n hx hb dX11_box_23 rfl (lv_at hl 1 rfl) ?_
      refine lv_iload_n hx hb dX11_box_24 rfl (lv_at hl 3 rfl) ?_
      refine lv_icmp_gt (tgt := 34) hx hb dX11_box_25 (by decide) (fun c76 => ?_) (fun c76 => ?_)
      · replace hf := xsBr_t c76 hf
        refine lv_iconst (v := (1 : Int32)) hx hb dX11_box_34 (by decide) ?_
        refine lv_goto (tgt := 39) hx hb dX11_box_35 (by decide) ?_
        have ev := Option.some.inj hf
        subst ev
        exact K72 (1 : Int32) hk71 H locs ls hP hD hS (lv_sub hl [0, 1, 2, 3, 4] rfl)
      · replace hf := xsBr_f c76 hf
        refine lv_iload_n hx hb dX11_box_28 rfl (lv_at hl 2 rfl) ?_
        refine lv_iload hx hb dX11_box_29 (lv_at hl 4 rfl) ?_
        refine lv_icmp_le (tgt := 38) hx hb dX11_box_31 (by decide) (fun c75 => ?_) (fun c75 => ?_)
        · replace hf := xsBr_t c75 hf
          refine lv_iconst (v := (0 : Int32)) hx hb dX11_box_38 (by decide) ?_
          have ev := Option.some.inj hf
          subst ev
          exact K72 (0 : Int32) hk71 H locs ls hP hD hS (lv_sub hl [0, 1, 2, 3, 4] rfl)
        · replace hf := xsBr_f c75 hf
          refine lv_iconst (v := (1 : Int32)) hx hb dX11_box_34 (by decide) ?_
          refine lv_goto (tgt := 39) hx hb dX11_box_35 (by decide) ?_
          have ev := Option.some.inj hf
          subst ev
          exact K72 (1 : Int32) hk71 H locs ls hP hD hS (lv_sub hl [0, 1, 2, 3, 4] rfl)
set_option maxRecDepth 100000 in
set_option maxHeartbeats 8000000 in
theorem mX11_tinted (l : Launch) {X : xsX} {mThrown mRemembered mHasImage mIsLaid mEvents mCrossings mEdges mTaped mPoint mEnd mBegin mFaultAt mActs : Int32} {mWorld mImage mDraft mEarlier mOne mTwo mShare mCrossingOf mBundle mEventOf mDegree mFrom mTo mMet mTape mFive mTold mFar mViews mHullX mHullY mEndX mEndY mMeets mMeetsOf : Nat → Int32} {mX mY mD mHeightUp mHeightLow : Int64} {mEventX mEventY mEventD mUpper mLower : Nat → Int64} {Rw : va_W} {a0 : Int32} {a1 : Int32} {out : Int32 × Int32 × Int32 × (Nat → Int32) × (Nat → Int32) × (Nat → Int32) × Int64 × Int64 × Int64 × (Nat → Int64) × (Nat → Int64) × (Nat → Int64) × Int32 × (Nat → Int32) × (Nat → Int32) × (Nat → Int32) × (Nat → Int32) × (Nat → Int32) × (Nat → Int32) × Int32 × Int32} (hf : fX11_tinted mThrown mWorld mIsLaid mOne mTwo mShare mX mY mD mEventX mEventY mEventD mEvents mCrossingOf mBundle mEventOf mDegree mFrom mTo mCrossings mEdges a0 a1 = some out) : Met l yX11_tinted (xsWs yX11_tinted cX11_tinted 8 (some .int)) { frames := 6, cells := 0, slots := 0, locals := 164 } (xsP X (wM X mThrown mWorld mImage mDraft mEarlier mRemembered mHasImage mIsLaid mOne mTwo mShare mX mY mD mEventX mEventY mEventD mEvents mCrossingOf mBundle mEventOf mDegree mFrom mTo mCrossings mEdges mMet mUpper mLower mTape mTaped mPoint mEnd mBegin mFaultAt mFive mTold mActs mFar mViews mHullX mHullY mEndX mEndY mHeightUp mHeightLow mMeets mMeetsOf Rw) [.ref (xsA X 100), .int a0, .int a1]) (xsQi X out.1 (wM X out.2.1 mWorld mImage mDraft mEarlier mRemembered mHasImage out.2.2.1 out.2.2.2.1 out.2.2.2.2.1 out.2.2.2.2.2.1 out.2.2.2.2.2.2.1 out.2.2.2.2.2.2.2.1 out.2.2.2.2.2.2.2.2.1 out.2.2.2.2.2.2.2.2.2.1 out.2.2.2.2.2.2.2.2.2.2.1 out.2.2.2.2.2.2.2.2.2.2.2.1 out.2.2.2.2.2.2.2.2.2.2.2.2.1 out.2.2.2.2.2.2.2.2.2.2.2.2.2.1 out.2.2.2.2.2.2.2.2.2.2.2.2.2.2.1 out.2.2.2.2.2.2.2.2.2.2.2.2.2.2.2.1 out.2.2.2.2.2.2.2.2.2.2.2.2.2.2.2.2.1 out.2.2.2.2.2.2.2.2.2.2.2.2.2.2.2.2.2.1 out.2.2.2.2.2.2.2.2.2.2.2.2.2.2.2.2.2.2.1 out.2.2.2.2.2.2.2.2.2.2.2.2.2.2.2.2.2.2.2.1 out.2.2.2.2.2.2.2.2.2.2.2.2.2.2.2.2.2.2.2.2 mMet mUpper mLower mTape mTaped mPoint mEnd mBegin mFaultAt mFive mTold mActs mFar mViews mHullX mHullY mEndX mEndY mHeightUp mHeightLow mMeets mMeetsOf Rw)) 0 0 (xsF X) := by
  refine xs_meth RX11 (by decide) rfl (Nat.le_of_ble_eq_true rfl) ?_
  intro p e s m below meth c ls H locs C hP hD hS hr hlk hl
  have hx := C.1
  have hb := C.2.1
  have hl : lv_has ls 8 [(0, .ref (xsA X 100)), (1, .int a0), (2, .int a1)] := hl
  obtain ⟨Qq, hQq⟩ : ∃ Qq, Qq = xsQi X out.1 (wM X out.2.1 mWorld mImage mDraft mEarlier mRemembered mHasImage out.2.2.1 out.2.2.2.1 out.2.2.2.2.1 out.2.2.2.2.2.1 out.2.2.2.2.2.2.1 out.2.2.2.2.2.2.2.1 out.2.2.2.2.2.2.2.2.1 out.2.2.2.2.2.2.2.2.2.1 out.2.2.2.2.2.2.2.2.2.2.1 out.2.2.2.2.2.2.2.2.2.2.2.1 out.2.2.2.2.2.2.2.2.2.2.2.2.1 out.2.2.2.2.2.2.2.2.2.2.2.2.2.1 out.2.2.2.2.2.2.2.2.2.2.2.2.2.2.1 out.2.2.2.2.2.2.2.2.2.2.2.2.2.2.2.1 out.2.2.2.2.2.2.2.2.2.2.2.2.2.2.2.2.1 out.2.2.2.2.2.2.2.2.2.2.2.2.2.2.2.2.2.1 out.2.2.2.2.2.2.2.2.2.2.2.2.2.2.2.2.2.2.1 out.2.2.2.2.2.2.2.2.2.2.2.2.2.2.2.2.2.2.2.1 out.2.2.2.2.2.2.2.2.2.2.2.2.2.2.2.2.2.2.2.2 mMet mUpper mLower mTape mTaped mPoint mEnd mBegin mFaultAt mFive mTold mActs mFar mViews mHullX mHullY mEndX mEndY mHeightUp mHeightLow mMeets mMeetsOf Rw) := ⟨_, rfl⟩
  rw [← hQq]
  unfold fX11_tinted at hf
  refine lv_aload_n hx hb dX11_tinted_0 rfl (lv_at hl 0 rfl) ?_
  refine lv_iconst (v := (0 : Int32)) hx hb dX11_tinted_1 (by decide) ?_
  refine xp_X11_3 C hP hD hS dX11_tinted_2 (fun H locs hP hD hS => ?_)
  refine lv_aload_n hx hb dX11_tinted_5 rfl (lv_at hl 0 rfl) ?_
  refine lv_iload_n hx hb dX11_tinted_6 rfl (lv_at hl 1 rfl) ?_
  refine lv_i2l hx hb dX11_tinted_7 rfl ?_
  refine lv_lconst (v := (0 : Int64)) hx hb dX11_tinted_8 (by decide) ?_
  refine lv_ldc2 (v := (3 : Int64)) hx hb C.2.2.2.1 (xs_kts C _ w_1572) dX11_tinted_9 ?_
  replace hf := xsBd_use hf
  obtain ⟨o1, h2, hf⟩ := hf
  refine xs_calli hS (xs_runS (As := [.long a0.toInt64, .long (0 : Int64), .long (3 : Int64)]) C (mX11_in l  h2) w_1573 w_1574 w_115 w_1575 hd_X11_in ⟨rfl, rfl, Nat.le_of_ble_eq_true rfl, Nat.le_of_ble_eq_true rfl, Nat.zero_le _, Nat.zero_le _⟩ hP hD hS hl.1 rfl (Nat.le_of_ble_eq_true rfl) dX11_tinted_12) (fun H locs hP hD hS => ?_)
  have K62 : ∀ (y3 : Int32) (hf : fX11_tinted_J35 mWorld mIsLaid mOne mTwo mShare mX mY mD mEventX mEventY mEventD mEvents mCrossingOf mBundle mEventOf mDegree mFrom mTo mCrossings mEdges a0 a1 y3 = some out) (H : Heap) (locs : List Loc) (ls : Array Slot), va_P (xsD X) vwCl (wM X (0 : Int32) mWorld mImage mDraft mEarlier mRemembered mHasImage mIsLaid mOne mTwo mShare mX mY mD mEventX mEventY mEventD mEvents mCrossingOf mBundle mEventOf mDegree mFrom mTo mCrossings mEdges mMet mUpper mLower mTape mTaped mPoint mEnd mBegin mFaultAt mFive mTold mActs mFar mViews mHullX mHullY mEndX mEndY mHeightUp mHeightLow mMeets mMeetsOf Rw) H → va_D (xsF X) (wM X (0 : Int32) mWorld mImage mDraft mEarlier mRemembered mHasImage mIsLaid mOne mTwo mShare mX mY mD mEventX mEventY mEventD mEvents mCrossingOf mBundle mEventOf mDegree mFrom mTo mCrossings mEdges mMet mUpper mLower mTape mTaped mPoint mEnd mBegin mFaultAt mFive mTold mActs mFar mViews mHullX mHullY mEndX mEndY mHeightUp mHeightLow mMeets mMeetsOf Rw) → va_S (xsF X) s.heap H locs → lv_has ls 8 [(0, .ref (xsA X 100)), (1, .int a0), (2, .int a1)] → W p l e { frames := 6, cells := 0, slots := 0, locals := 164 } s m ([.ref (xsA X 100), .int a0, .int a1] : List Value).toArray below meth c H locs 0 0 (MQ below Qq ([.ref (xsA X 100), .int a0, .int a1] : List Value).toArray s 0 0 (xsF X)) (F0 m 35 ls [.int y3, .ref (xsA X 100)]) := by
    intro y3 hf H locs ls hP hD hS hl
    unfold fX11_tinted_J35 at hf
    refine lv_iconst (v := (1 : Int32)) hx hb dX11_tinted_35 (by decide) ?_
    replace hf := xsBd_use hf
    obtain ⟨o4, h5, hf⟩ := hf
    refine xs_calli hS (xs_runV (As := [.int y3, .int (1 : Int32)]) C (mX11_throwsIf l  h5) w_1502 w_1504 w_33 w_115 w_1505 hd_X11_throwsIf ⟨rfl, rfl, Nat.le_of_ble_eq_true rfl, Nat.le_of_ble_eq_true rfl, Nat.zero_le _, Nat.zero_le _⟩ hP hD hS lk_X11 rfl hl.1 rfl (Nat.le_of_ble_eq_true rfl) dX11_tinted_36) (fun H locs hP hD hS => ?_)
    refine lv_if_eq (tgt := 44) hx hb dX11_tinted_39 (by decide) (fun c59 => ?_) (fun c59 => ?_)
    · replace hf := xsBr_t c59 hf
      refine lv_aload_n hx hb dX11_tinted_44 rfl (lv_at hl 0 rfl) ?_
      replace hf := xsBd_use hf
      obtain ⟨o6, h7, hf⟩ := hf
      refine xs_callv hS (xs_runV (As := []) C (mX11_lays l  h7) w_1646 w_1648 w_56 w_115 w_1649 hd_X11_lays ⟨rfl, rfl, Nat.le_of_ble_eq_true rfl, Nat.le_of_ble_eq_true rfl, Nat.zero_le _, Nat.zero_le _⟩ hP hD hS lk_X11 rfl hl.1 rfl (Nat.le_of_ble_eq_true rfl) dX11_tinted_45) (fun H locs hP hD hS => ?_)
      refine lv_iconst (v := (0 : Int32)) hx hb dX11_tinted_48 (by decide) ?_
      refine lv_istore_n (lv' := [(3, .int (0 : Int32)), (0, .ref (xsA X 100)), (1, .int a0), (2, .int a1)]) hx hb dX11_tinted_49 rfl hl (by decide) rfl (fun ls hl => ?_)
      refine lv_iconst (v := (0 : Int32)) hx hb dX11_tinted_50 (by decide) ?_
      refine lv_istore (lv' := [(4, .int (0 : Int32)), (3, .int (0 : Int32)), (0, .ref (xsA X 100)), (1, .int a0), (2, .int a1)]) hx hb dX11_tinted_51 hl (by decide) rfl (fun ls hl => ?_)
      have K10 : ∀ (y11 : Int32) (hf : fX11_tinted_J194 o4 o6 y11 = some out) (H : Heap) (locs : List Loc) (ls : Array Slot), va_P (xsD X) vwCl (wM X o4.2 mWorld mImage mDraft mEarlier mRemembered mHasImage o6.1 o6.2.1 o6.2.2.1 o6.2.2.2.1 o6.2.2.2.2.1 o6.2.2.2.2.2.1 o6.2.2.2.2.2.2.1 o6.2.2.2.2.2.2.2.1 o6.2.2.2.2.2.2.2.2.1 o6.2.2.2.2.2.2.2.2.2.1 o6.2.2.2.2.2.2.2.2.2.2.1 o6.2.2.2.2.2.2.2.2.2.2.2.1 o6.2.2.2.2.2.2.2.2.2.2.2.2.1 o6.2.2.2.2.2.2.2.2.2.2.2.2.2.1 o6.2.2.2.2.2.2.2.2.2.2.2.2.2.2.1 o6.2.2.2.2.2.2.2.2.2.2.2.2.2.2.2.1 o6.2.2.2.2.2.2.2.2.2.2.2.2.2.2.2.2.1 o6.2.2.2.2.2.2.2.2.2.2.2.2.2.2.2.2.2.1 o6.2.2.2.2.2.2.2.2.2.2.2.2.2.2.2.2.2.2 mMet mUpper mLower mTape mTaped mPoint mEnd mBegin mFaultAt mFive mTold mActs mFar mViews mHullX mHullY mEndX mEndY mHeightUp mHeightLow mMeets mMeetsOf Rw) H → va_D (xsF X) (wM X o4.2 mWorld mImage mDraft mEarlier mRemembered mHasImage o6.1 o6.2.1 o6.2.2.1 o6.2.2.2.1 o6.2.2.2.2.1 o6.2.2.2.2.2.1 o6.2.2.2.2.2.2.1 o6.2.2.2.2.2.2.2.1 o6.2.2.2.2.2.2.2.2.1 o6.2.2.2.2.2.2.2.2.2.1 o6.2.2.2.2.2.2.2.2.2.2.1 o6.2.2.2.2.2.2.2.2.2.2.2.1 o6.2.2.2.2.2.2.2.2.2.2.2.2.1 o6.2.2.2.2.2.2.2.2.2.2.2.2.2.1 o6.2.2.2.2.2.2.2.2.2.2.2.2.2.2.1 o6.2.2.2.2.2.2.2.2.2.2.2.2.2.2.2.1 o6.2.2.2.2.2.2.2.2.2.2.2.2.2.2.2.2.1 o6.2.2.2.2.2.2.2.2.2.2.2.2.2.2.2.2.2.1 o6.2.2.2.2.2.2.2.2.2.2.2.2.2.2.2.2.2.2 mMet mUpper mLower mTape mTaped mPoint mEnd mBegin mFaultAt mFive mTold mActs mFar mViews mHullX mHullY mEndX mEndY mHeightUp mHeightLow mMeets mMeetsOf Rw) → va_S (xsF X) s.heap H locs → lv_has ls 8 [(3, .int y11)] → W p l e { frames := 6, cells := 0, slots := 0, locals := 164 } s m ([.ref (xsA X 100), .int a0, .int a1] : List Value).toArray below meth c H locs 0 0 (MQ below Qq ([.ref (xsA X 100), .int a0, .int a1] : List Value).toArray s 0 0 (xsF X)) (F0 m 194 ls []) := by
        intro y11 hf H locs ls hP hD hS hl
        unfold fX11_tinted_J194 at hf
        refine lv_iload_n hx hb dX11_tinted_194 rfl (lv_at hl 0 rfl) ?_
        have ho := Option.some.inj hf
        subst ho
        rw [hQq]
        exact xs_iret C hr hlk hP hD hS dX11_tinted_195
      replace hf := xsBd_use hf
      obtain ⟨r10, hk100, hf⟩ := hf
      have L10 : ∀ (sg : Int32 × Int32) (rg : Int32), xsWh (fun s10 => fX11_tinted_L53 mWorld a0 a1 o6 s10.1 s10.2) sg = some rg → (fX11_tinted_J194 o4 o6 rg = some out → ∀ (H : Heap) (locs : List Loc) (ls : Array Slot), va_P (xsD X) vwCl (wM X o4.2 mWorld mImage mDraft mEarlier mRemembered mHasImage o6.1 o6.2.1 o6.2.2.1 o6.2.2.2.1 o6.2.2.2.2.1 o6.2.2.2.2.2.1 o6.2.2.2.2.2.2.1 o6.2.2.2.2.2.2.2.1 o6.2.2.2.2.2.2.2.2.1 o6.2.2.2.2.2.2.2.2.2.1 o6.2.2.2.2.2.2.2.2.2.2.1 o6.2.2.2.2.2.2.2.2.2.2.2.1 o6.2.2.2.2.2.2.2.2.2.2.2.2.1 o6.2.2.2.2.2.2.2.2.2.2.2.2.2.1 o6.2.2.2.2.2.2.2.2.2.2.2.2.2.2.1 o6.2.2.2.2.2.2.2.2.2.2.2.2.2.2.2.1 o6.2.2.2.2.2.2.2.2.2.2.2.2.2.2.2.2.1 o6.2.2.2.2.2.2.2.2.2.2.2.2.2.2.2.2.2.1 o6.2.2.2.2.2.2.2.2.2.2.2.2.2.2.2.2.2.2 mMet mUpper mLower mTape mTaped mPoint mEnd mBegin mFaultAt mFive mTold mActs mFar mViews mHullX mHullY mEndX mEndY mHeightUp mHeightLow mMeets mMeetsOf Rw) H → va_D (xsF X) (wM X o4.2 mWorld mImage mDraft mEarlier mRemembered mHasImage o6.1 o6.2.1 o6.2.2.1 o6.2.2.2.1 o6.2.2.2.2.1 o6.2.2.2.2.2.1 o6.2.2.2.2.2.2.1 o6.2.2.2.2.2.2.2.1 o6.2.2.2.2.2.2.2.2.1 o6.2.2.2.2.2.2.2.2.2.1 o6.2.2.2.2.2.2.2.2.2.2.1 o6.2.2.2.2.2.2.2.2.2.2.2.1 o6.2.2.2.2.2.2.2.2.2.2.2.2.1 o6.2.2.2.2.2.2.2.2.2.2.2.2.2.1 o6.2.2.2.2.2.2.2.2.2.2.2.2.2.2.1 o6.2.2.2.2.2.2.2.2.2.2.2.2.2.2.2.1 o6.2.2.2.2.2.2.2.2.2.2.2.2.2.2.2.2.1 o6.2.2.2.2.2.2.2.2.2.2.2.2.2.2.2.2.2.1 o6.2.2.2.2.2.2.2.2.2.2.2.2.2.2.2.2.2.2 mMet mUpper mLower mTape mTaped mPoint mEnd mBegin mFaultAt mFive mTold mActs mFar mViews mHullX mHullY mEndX mEndY mHeightUp mHeightLow mMeets mMeetsOf Rw) → va_S (xsF X) s.heap H locs → lv_has ls 8 [(0, .ref (xsA X 100)), (1, .int a0), (2, .int a1), (3, .int sg.1), (4, .int sg.2)] → W p l e { frames := 6, cells := 0, slots := 0, locals := 164 } s m ([.ref (xsA X 100), .int a0, .int a1] : List Value).toArray below meth c H locs 0 0 (MQ below Qq ([.ref (xsA X 100), .int a0, .int a1] : List Value).toArray s 0 0 (xsF X)) (F0 m 53 ls [])) := by
        refine xsWh_ind ?_
        intro sg r10 u10 hf ih10 hx10 hk10 H locs ls hP hD hS hl
        obtain ⟨y8, y9⟩ := sg
        replace hf : fX11_tinted_L53 mWorld a0 a1 o6 y8 y9 = some u10 := hf
        replace hl : lv_has ls 8 [(0, .ref (xsA X 100)), (1, .int a0), (2, .int a1), (3, .int y8), (4, .int y9)] := hl
        replace hP : va_P (xsD X) vwCl (wM X o4.2 mWorld mImage mDraft mEarlier mRemembered mHasImage o6.1 o6.2.1 o6.2.2.1 o6.2.2.2.1 o6.2.2.2.2.1 o6.2.2.2.2.2.1 o6.2.2.2.2.2.2.1 o6.2.2.2.2.2.2.2.1 o6.2.2.2.2.2.2.2.2.1 o6.2.2.2.2.2.2.2.2.2.1 o6.2.2.2.2.2.2.2.2.2.2.1 o6.2.2.2.2.2.2.2.2.2.2.2.1 o6.2.2.2.2.2.2.2.2.2.2.2.2.1 o6.2.2.2.2.2.2.2.2.2.2.2.2.2.1 o6.2.2.2.2.2.2.2.2.2.2.2.2.2.2.1 o6.2.2.2.2.2.2.2.2.2.2.2.2.2.2.2.1 o6.2.2.2.2.2.2.2.2.2.2.2.2.2.2.2.2.1 o6.2.2.2.2.2.2.2.2.2.2.2.2.2.2.2.2.2.1 o6.2.2.2.2.2.2.2.2.2.2.2.2.2.2.2.2.2.2 mMet mUpper mLower mTape mTaped mPoint mEnd mBegin mFaultAt mFive mTold mActs mFar mViews mHullX mHullY mEndX mEndY mHeightUp mHeightLow mMeets mMeetsOf Rw) H := hP
        replace hD : va_D (xsF X) (wM X o4.2 mWorld mImage mDraft mEarlier mRemembered mHasImage o6.1 o6.2.1 o6.2.2.1 o6.2.2.2.1 o6.2.2.2.2.1 o6.2.2.2.2.2.1 o6.2.2.2.2.2.2.1 o6.2.2.2.2.2.2.2.1 o6.2.2.2.2.2.2.2.2.1 o6.2.2.2.2.2.2.2.2.2.1 o6.2.2.2.2.2.2.2.2.2.2.1 o6.2.2.2.2.2.2.2.2.2.2.2.1 o6.2.2.2.2.2.2.2.2.2.2.2.2.1 o6.2.2.2.2.2.2.2.2.2.2.2.2.2.1 o6.2.2.2.2.2.2.2.2.2.2.2.2.2.2.1 o6.2.2.2.2.2.2.2.2.2.2.2.2.2.2.2.1 o6.2.2.2.2.2.2.2.2.2.2.2.2.2.2.2.2.1 o6.2.2.2.2.2.2.2.2.2.2.2.2.2.2.2.2.2.1 o6.2.2.2.2.2.2.2.2.2.2.2.2.2.2.2.2.2.2 mMet mUpper mLower mTape mTaped mPoint mEnd mBegin mFaultAt mFive mTold mActs mFar mViews mHullX mHullY mEndX mEndY mHeightUp mHeightLow mMeets mMeetsOf Rw) := hD
        unfold fX11_tinted_L53 at hf
        refine lv_iload hx hb dX11_tinted_53 (lv_at hl 4 rfl) ?_
        refine lv_aload_n hx hb dX11_tinted_55 rfl (lv_at hl 0 rfl) ?_
        refine xg_X11_206 C hP dX11_tinted_56 ?_
        refine lv_icmp_ge (tgt := 194) hx hb dX11_tinted_59 (by decide) (fun c58 => ?_) (fun c58 => ?_)
        · replace hf := xsBr_t c58 hf
          have ez := hx10 _ (Option.some.inj hf).symm
          subst ez
          exact K10 y8 hk10 H locs ls hP hD hS (lv_sub hl [3] rfl)
        · replace hf := xsBr_f c58 hf
          refine lv_iconst (v := (0 : Int32)) hx hb dX11_tinted_62 (by decide) ?_
          refine lv_istore (lv' := [(5, .int (0 : Int32)), (0, .ref (xsA X 100)), (1, .int a0), (2, .int a1), (3, .int y8), (4, .int y9)]) hx hb dX11_tinted_63 hl (by decide) rfl (fun ls hl => ?_)
          refine lv_iconst (v := (0 : Int32)) hx hb dX11_tinted_65 (by decide) ?_
          refine lv_istore (lv' := [(6, .int (0 : Int32)), (5, .int (0 : Int32)), (0, .ref (xsA X 100)), (1, .int a0), (2, .int a1), (3, .int y8), (4, .int y9)]) hx hb dX11_tinted_66 hl (by decide) rfl (fun ls hl => ?_)
          refine lv_iconst (v := (0 : Int32)) hx hb dX11_tinted_68 (by decide) ?_
          refine lv_istore (lv' := [(7, .int (0 : Int32)), (6, .int (0 : Int32)), (5, .int (0 : Int32)), (0, .ref (xsA X 100)), (1, .int a0), (2, .int a1), (3, .int y8), (4, .int y9)]) hx hb dX11_tinted_69 hl (by decide) rfl (fun ls hl => ?_)
          have K15 : ∀ (y16 : Int32) (y17 : Int32) (hf : fX11_tinted_J151 a0 a1 y8 y9 y16 y17 = some u10) (H : Heap) (locs : List Loc) (ls : Array Slot), va_P (xsD X) vwCl (wM X o4.2 mWorld mImage mDraft mEarlier mRemembered mHasImage o6.1 o6.2.1 o6.2.2.1 o6.2.2.2.1 o6.2.2.2.2.1 o6.2.2.2.2.2.1 o6.2.2.2.2.2.2.1 o6.2.2.2.2.2.2.2.1 o6.2.2.2.2.2.2.2.2.1 o6.2.2.2.2.2.2.2.2.2.1 o6.2.2.2.2.2.2.2.2.2.2.1 o6.2.2.2.2.2.2.2.2.2.2.2.1 o6.2.2.2.2.2.2.2.2.2.2.2.2.1 o6.2.2.2.2.2.2.2.2.2.2.2.2.2.1 o6.2.2.2.2.2.2.2.2.2.2.2.2.2.2.1 o6.2.2.2.2.2.2.2.2.2.2.2.2.2.2.2.1 o6.2.2.2.2.2.2.2.2.2.2.2.2.2.2.2.2.1 o6.2.2.2.2.2.2.2.2.2.2.2.2.2.2.2.2.2.1 o6.2.2.2.2.2.2.2.2.2.2.2.2.2.2.2.2.2.2 mMet mUpper mLower mTape mTaped mPoint mEnd mBegin mFaultAt mFive mTold mActs mFar mViews mHullX mHullY mEndX mEndY mHeightUp mHeightLow mMeets mMeetsOf Rw) H → va_D (xsF X) (wM X o4.2 mWorld mImage mDraft mEarlier mRemembered mHasImage o6.1 o6.2.1 o6.2.2.1 o6.2.2.2.1 o6.2.2.2.2.1 o6.2.2.2.2.2.1 o6.2.2.2.2.2.2.1 o6.2.2.2.2.2.2.2.1 o6.2.2.2.2.2.2.2.2.1 o6.2.2.2.2.2.2.2.2.2.1 o6.2.2.2.2.2.2.2.2.2.2.1 o6.2.2.2.2.2.2.2.2.2.2.2.1 o6.2.2.2.2.2.2.2.2.2.2.2.2.1 o6.2.2.2.2.2.2.2.2.2.2.2.2.2.1 o6.2.2.2.2.2.2.2.2.2.2.2.2.2.2.1 o6.2.2.2.2.2.2.2.2.2.2.2.2.2.2.2.1 o6.2.2.2.2.2.2.2.2.2.2.2.2.2.2.2.2.1 o6.2.2.2.2.2.2.2.2.2.2.2.2.2.2.2.2.2.1 o6.2.2.2.2.2.2.2.2.2.2.2.2.2.2.2.2.2.2 mMet mUpper mLower mTape mTaped mPoint mEnd mBegin mFaultAt mFive mTold mActs mFar mViews mHullX mHullY mEndX mEndY mHeightUp mHeightLow mMeets mMeetsOf Rw) → va_S (xsF X) s.heap H locs → lv_has ls 8 [(0, .ref (xsA X 100)), (1, .int a0), (2, .int a1), (3, .int y8), (4, .int y9), (5, .int y16), (6, .int y17)] → W p l e { frames := 6, cells := 0, slots := 0, locals := 164 } s m ([.ref (xsA X 100), .int a0, .int a1] : List Value).toArray below meth c H locs 0 0 (MQ below Qq ([.ref (xsA X 100), .int a0, .int a1] : List Value).toArray s 0 0 (xsF X)) (F0 m 151 ls []) := by
            intro y16 y17 hf H locs ls hP hD hS hl
            unfold fX11_tinted_J151 at hf
            refine lv_iload_n hx hb dX11_tinted_151 rfl (lv_at hl 3 rfl) ?_
            refine lv_iload_n hx hb dX11_tinted_152 rfl (lv_at hl 1 rfl) ?_
            refine lv_iload_n hx hb dX11_tinted_153 rfl (lv_at hl 2 rfl) ?_
            have K23 : ∀ (y18 : Int32) (hf : fX11_tinted_J186 y8 y9 y18 = some u10) (H : Heap) (locs : List Loc) (ls : Array Slot), va_P (xsD X) vwCl (wM X o4.2 mWorld mImage mDraft mEarlier mRemembered mHasImage o6.1 o6.2.1 o6.2.2.1 o6.2.2.2.1 o6.2.2.2.2.1 o6.2.2.2.2.2.1 o6.2.2.2.2.2.2.1 o6.2.2.2.2.2.2.2.1 o6.2.2.2.2.2.2.2.2.1 o6.2.2.2.2.2.2.2.2.2.1 o6.2.2.2.2.2.2.2.2.2.2.1 o6.2.2.2.2.2.2.2.2.2.2.2.1 o6.2.2.2.2.2.2.2.2.2.2.2.2.1 o6.2.2.2.2.2.2.2.2.2.2.2.2.2.1 o6.2.2.2.2.2.2.2.2.2.2.2.2.2.2.1 o6.2.2.2.2.2.2.2.2.2.2.2.2.2.2.2.1 o6.2.2.2.2.2.2.2.2.2.2.2.2.2.2.2.2.1 o6.2.2.2.2.2.2.2.2.2.2.2.2.2.2.2.2.2.1 o6.2.2.2.2.2.2.2.2.2.2.2.2.2.2.2.2.2.2 mMet mUpper mLower mTape mTaped mPoint mEnd mBegin mFaultAt mFive mTold mActs mFar mViews mHullX mHullY mEndX mEndY mHeightUp mHeightLow mMeets mMeetsOf Rw) H → va_D (xsF X) (wM X o4.2 mWorld mImage mDraft mEarlier mRemembered mHasImage o6.1 o6.2.1 o6.2.2.1 o6.2.2.2.1 o6.2.2.2.2.1 o6.2.2.2.2.2.1 o6.2.2.2.2.2.2.1 o6.2.2.2.2.2.2.2.1 o6.2.2.2.2.2.2.2.2.1 o6.2.2.2.2.2.2.2.2.2.1 o6.2.2.2.2.2.2.2.2.2.2.1 o6.2.2.2.2.2.2.2.2.2.2.2.1 o6.2.2.2.2.2.2.2.2.2.2.2.2.1 o6.2.2.2.2.2.2.2.2.2.2.2.2.2.1 o6.2.2.2.2.2.2.2.2.2.2.2.2.2.2.1 o6.2.2.2.2.2.2.2.2.2.2.2.2.2.2.2.1 o6.2.2.2.2.2.2.2.2.2.2.2.2.2.2.2.2.1 o6.2.2.2.2.2.2.2.2.2.2.2.2.2.2.2.2.2.1 o6.2.2.2.2.2.2.2.2.2.2.2.2.2.2.2.2.2.2 mMet mUpper mLower mTape mTaped mPoint mEnd mBegin mFaultAt mFive mTold mActs mFar mViews mHullX mHullY mEndX mEndY mHeightUp mHeightLow mMeets mMeetsOf Rw) → va_S (xsF X) s.heap H locs → lv_has ls 8 [(0, .ref (xsA X 100)), (1, .int a0), (2, .int a1), (4, .int y9)] → W p l e { frames := 6, cells := 0, slots := 0, locals := 164 } s m ([.ref (xsA X 100), .int a0, .int a1] : List Value).toArray below meth c H locs 0 0 (MQ below Qq ([.ref (xsA X 100), .int a0, .int a1] : List Value).toArray s 0 0 (xsF X)) (F0 m 186 ls [.int y18, .int y8]) := by
              intro y18 hf H locs ls hP hD hS hl
              unfold fX11_tinted_J186 at hf
              refine lv_iadd hx hb dX11_tinted_186 ?_
              refine lv_topi (fun x19 ex19 => ?_)
              replace hf := xsLt_use ex19 hf
              refine lv_istore_n (lv' := [(3, .int x19), (0, .ref (xsA X 100)), (1, .int a0), (2, .int a1), (4, .int y9)]) hx hb dX11_tinted_187 rfl hl (by decide) rfl (fun ls hl => ?_)
              obtain ⟨x20, ex20⟩ : ∃ y : Int32, y = y9 + (1 : Int32) := ⟨_, rfl⟩
              replace hf := xsLt_use ex20 hf
              refine lv_iinc (v := x20) (lv' := [(4, .int x20), (3, .int x19), (0, .ref (xsA X 100)), (1, .int a0), (2, .int a1)]) hx hb dX11_tinted_188 hl (k := 4) rfl (by rw [ex20]; rfl) (by decide) rfl (fun ls hl => ?_)
              refine lv_goto (tgt := 53) hx hb dX11_tinted_191 (by decide) ?_
              exact ih10 _ (Option.some.inj hf).symm hk10 H locs ls hP hD hS (lv_sub hl [2, 3, 4, 1, 0] rfl)
            replace hf := xsBd_use hf
            obtain ⟨v21, hf, hk22⟩ := hf
            refine lv_icmp_ne (tgt := 171) hx hb dX11_tinted_154 (by decide) (fun c27 => ?_) (fun c27 => ?_)
            · replace hf := xsBr_f c27 hf
              refine lv_iload hx hb dX11_tinted_171 (lv_at hl 5 rfl) ?_
              refine lv_if_le (tgt := 185) hx hb dX11_tinted_173 (by decide) (fun c25 => ?_) (fun c25 => ?_)
              · replace hf := xsBr_t c25 hf
                refine lv_iconst (v := (0 : Int32)) hx hb dX11_tinted_185 (by decide) ?_
                have ev := Option.some.inj hf
                subst ev
                exact K23 (0 : Int32) hk22 H locs ls hP hD hS (lv_sub hl [0, 1, 2, 4] rfl)
              · replace hf := xsBr_f c25 hf
                refine lv_iload hx hb dX11_tinted_176 (lv_at hl 6 rfl) ?_
                refine lv_if_le (tgt := 185) hx hb dX11_tinted_178 (by decide) (fun c24 => ?_) (fun c24 => ?_)
                · replace hf := xsBr_t c24 hf
                  refine lv_iconst (v := (0 : Int32)) hx hb dX11_tinted_185 (by decide) ?_
                  have ev := Option.some.inj hf
                  subst ev
                  exact K23 (0 : Int32) hk22 H locs ls hP hD hS (lv_sub hl [0, 1, 2, 4] rfl)
                · replace hf := xsBr_f c24 hf
                  refine lv_iconst (v := (1 : Int32)) hx hb dX11_tinted_181 (by decide) ?_
                  refine lv_goto (tgt := 186) hx hb dX11_tinted_182 (by decide) ?_
                  have ev := Option.some.inj hf
                  subst ev
                  exact K23 (1 : Int32) hk22 H locs ls hP hD hS (lv_sub hl [0, 1, 2, 4] rfl)
            · replace hf := xsBr_t c27 hf
              refine lv_iload hx hb dX11_tinted_157 (lv_at hl 5 rfl) ?_
              refine lv_iconst (v := (1 : Int32)) hx hb dX11_tinted_159 (by decide) ?_
              refine lv_icmp_le (tgt := 167) hx hb dX11_tinted_160 (by decide) (fun c26 => ?_) (fun c26 => ?_)
              · replace hf := xsBr_t c26 hf
                refine lv_iconst (v := (0 : Int32)) hx hb dX11_tinted_167 (by decide) ?_
                refine lv_goto (tgt := 186) hx hb dX11_tinted_168 (by decide) ?_
                have ev := Option.some.inj hf
                subst ev
                exact K23 (0 : Int32) hk22 H locs ls hP hD hS (lv_sub hl [0, 1, 2, 4] rfl)
              · replace hf := xsBr_f c26 hf
                refine lv_iconst (v := (1 : Int32)) hx hb dX11_tinted_163 (by decide) ?_
                refine lv_goto (tgt := 186) hx hb dX11_tinted_164 (by decide) ?_
                have ev := Option.some.inj hf
                subst ev
                exact K23 (1 : Int32) hk22 H locs ls hP hD hS (lv_sub hl [0, 1, 2, 4] rfl)
          replace hf := xsBd_use hf
          obtain ⟨r15, hk150, hf⟩ := hf
          have L15 : ∀ (sg : Int32 × Int32 × Int32) (rg : Int32 × Int32), xsWh (fun s15 => fX11_tinted_L71 mWorld a0 a1 o6 y9 s15.1 s15.2.1 s15.2.2) sg = some rg → (fX11_tinted_J151 a0 a1 y8 y9 rg.1 rg.2 = some u10 → ∀ (H : Heap) (locs : List Loc) (ls : Array Slot), va_P (xsD X) vwCl (wM X o4.2 mWorld mImage mDraft mEarlier mRemembered mHasImage o6.1 o6.2.1 o6.2.2.1 o6.2.2.2.1 o6.2.2.2.2.1 o6.2.2.2.2.2.1 o6.2.2.2.2.2.2.1 o6.2.2.2.2.2.2.2.1 o6.2.2.2.2.2.2.2.2.1 o6.2.2.2.2.2.2.2.2.2.1 o6.2.2.2.2.2.2.2.2.2.2.1 o6.2.2.2.2.2.2.2.2.2.2.2.1 o6.2.2.2.2.2.2.2.2.2.2.2.2.1 o6.2.2.2.2.2.2.2.2.2.2.2.2.2.1 o6.2.2.2.2.2.2.2.2.2.2.2.2.2.2.1 o6.2.2.2.2.2.2.2.2.2.2.2.2.2.2.2.1 o6.2.2.2.2.2.2.2.2.2.2.2.2.2.2.2.2.1 o6.2.2.2.2.2.2.2.2.2.2.2.2.2.2.2.2.2.1 o6.2.2.2.2.2.2.2.2.2.2.2.2.2.2.2.2.2.2 mMet mUpper mLower mTape mTaped mPoint mEnd mBegin mFaultAt mFive mTold mActs mFar mViews mHullX mHullY mEndX mEndY mHeightUp mHeightLow mMeets mMeetsOf Rw) H → va_D (xsF X) (wM X o4.2 mWorld mImage mDraft mEarlier mRemembered mHasImage o6.1 o6.2.1 o6.2.2.1 o6.2.2.2.1 o6.2.2.2.2.1 o6.2.2.2.2.2.1 o6.2.2.2.2.2.2.1 o6.2.2.2.2.2.2.2.1 o6.2.2.2.2.2.2.2.2.1 o6.2.2.2.2.2.2.2.2.2.1 o6.2.2.2.2.2.2.2.2.2.2.1 o6.2.2.2.2.2.2.2.2.2.2.2.1 o6.2.2.2.2.2.2.2.2.2.2.2.2.1 o6.2.2.2.2.2.2.2.2.2.2.2.2.2.1 o6.2.2.2.2.2.2.2.2.2.2.2.2.2.2.1 o6.2.2.2.2.2.2.2.2.2.2.2.2.2.2.2.1 o6.2.2.2.2.2.2.2.2.2.2.2.2.2.2.2.2.1 o6.2.2.2.2.2.2.2.2.2.2.2.2.2.2.2.2.2.1 o6.2.2.2.2.2.2.2.2.2.2.2.2.2.2.2.2.2.2 mMet mUpper mLower mTape mTaped mPoint mEnd mBegin mFaultAt mFive mTold mActs mFar mViews mHullX mHullY mEndX mEndY mHeightUp mHeightLow mMeets mMeetsOf Rw) → va_S (xsF X) s.heap H locs → lv_has ls 8 [(0, .ref (xsA X 100)), (1, .int a0), (2, .int a1), (3, .int y8), (4, .int y9), (5, .int sg.1), (6, .int sg.2.1), (7, .int sg.2.2)] → W p l e { frames := 6, cells := 0, slots := 0, locals := 164 } s m ([.ref (xsA X 100), .int a0, .int a1] : List Value).toArray below meth c H locs 0 0 (MQ below Qq ([.ref (xsA X 100), .int a0, .int a1] : List Value).toArray s 0 0 (xsF X)) (F0 m 71 ls [])) := by
            refine xsWh_ind ?_
            intro sg r15 u15 hf ih15 hx15 hk15 H locs ls hP hD hS hl
            obtain ⟨y12, y13, y14⟩ := sg
            replace hf : fX11_tinted_L71 mWorld a0 a1 o6 y9 y12 y13 y14 = some u15 := hf
            replace hl : lv_has ls 8 [(0, .ref (xsA X 100)), (1, .int a0), (2, .int a1), (3, .int y8), (4, .int y9), (5, .int y12), (6, .int y13), (7, .int y14)] := hl
            replace hP : va_P (xsD X) vwCl (wM X o4.2 mWorld mImage mDraft mEarlier mRemembered mHasImage o6.1 o6.2.1 o6.2.2.1 o6.2.2.2.1 o6.2.2.2.2.1 o6.2.2.2.2.2.1 o6.2.2.2.2.2.2.1 o6.2.2.2.2.2.2.2.1 o6.2.2.2.2.2.2.2.2.1 o6.2.2.2.2.2.2.2.2.2.1 o6.2.2.2.2.2.2.2.2.2.2.1 o6.2.2.2.2.2.2.2.2.2.2.2.1 o6.2.2.2.2.2.2.2.2.2.2.2.2.1 o6.2.2.2.2.2.2.2.2.2.2.2.2.2.1 o6.2.2.2.2.2.2.2.2.2.2.2.2.2.2.1 o6.2.2.2.2.2.2.2.2.2.2.2.2.2.2.2.1 o6.2.2.2.2.2.2.2.2.2.2.2.2.2.2.2.2.1 o6.2.2.2.2.2.2.2.2.2.2.2.2.2.2.2.2.2.1 o6.2.2.2.2.2.2.2.2.2.2.2.2.2.2.2.2.2.2 mMet mUpper mLower mTape mTaped mPoint mEnd mBegin mFaultAt mFive mTold mActs mFar mViews mHullX mHullY mEndX mEndY mHeightUp mHeightLow mMeets mMeetsOf Rw) H := hP
            replace hD : va_D (xsF X) (wM X o4.2 mWorld mImage mDraft mEarlier mRemembered mHasImage o6.1 o6.2.1 o6.2.2.1 o6.2.2.2.1 o6.2.2.2.2.1 o6.2.2.2.2.2.1 o6.2.2.2.2.2.2.1 o6.2.2.2.2.2.2.2.1 o6.2.2.2.2.2.2.2.2.1 o6.2.2.2.2.2.2.2.2.2.1 o6.2.2.2.2.2.2.2.2.2.2.1 o6.2.2.2.2.2.2.2.2.2.2.2.1 o6.2.2.2.2.2.2.2.2.2.2.2.2.1 o6.2.2.2.2.2.2.2.2.2.2.2.2.2.1 o6.2.2.2.2.2.2.2.2.2.2.2.2.2.2.1 o6.2.2.2.2.2.2.2.2.2.2.2.2.2.2.2.1 o6.2.2.2.2.2.2.2.2.2.2.2.2.2.2.2.2.1 o6.2.2.2.2.2.2.2.2.2.2.2.2.2.2.2.2.2.1 o6.2.2.2.2.2.2.2.2.2.2.2.2.2.2.2.2.2.2 mMet mUpper mLower mTape mTaped mPoint mEnd mBegin mFaultAt mFive mTold mActs mFar mViews mHullX mHullY mEndX mEndY mHeightUp mHeightLow mMeets mMeetsOf Rw) := hD
            unfold fX11_tinted_L71 at hf
            refine lv_iload hx hb dX11_tinted_71 (lv_at hl 7 rfl) ?_
            refine lv_aload_n hx hb dX11_tinted_73 rfl (lv_at hl 0 rfl) ?_
            replace hf := xsBd_use hf
            obtain ⟨o28, h29, hf⟩ := hf
            refine xs_calli hS (xs_runV (As := []) C (mX11_many l  h29) w_1581 w_1583 w_44 w_115 w_1584 hd_X11_many ⟨rfl, rfl, Nat.le_of_ble_eq_true rfl, Nat.le_of_ble_eq_true rfl, Nat.zero_le _, Nat.zero_le _⟩ hP hD hS lk_X11 rfl hl.1 rfl (Nat.le_of_ble_eq_true rfl) dX11_tinted_74) (fun H locs hP hD hS => ?_)
            refine lv_icmp_ge (tgt := 151) hx hb dX11_tinted_77 (by decide) (fun c57 => ?_) (fun c57 => ?_)
            · replace hf := xsBr_t c57 hf
              have ez := hx15 _ (Option.some.inj hf).symm
              subst ez
              exact K15 y12 y13 hk15 H locs ls hP hD hS (lv_sub hl [0, 1, 2, 3, 4, 5, 6] rfl)
            · replace hf := xsBr_f c57 hf
              refine lv_aload_n hx hb dX11_tinted_80 rfl (lv_at hl 0 rfl) ?_
              refine xg_X11_48 C hP dX11_tinted_81 ?_
              refine lv_aload_n hx hb dX11_tinted_84 rfl (lv_at hl 0 rfl) ?_
              refine xg_X11_51 C hP dX11_tinted_85 ?_
              refine lv_iload hx hb dX11_tinted_88 (lv_at hl 4 rfl) ?_
              replace hf := xsCk_use hf
              obtain ⟨h30, hf⟩ := hf
              refine xl_mEventOf C hP h30 dX11_tinted_90 ?_
              replace hf := xsCk_use hf
              obtain ⟨h31, hf⟩ := hf
              refine xl_mBundle C hP h31 dX11_tinted_91 ?_
              refine lv_iload hx hb dX11_tinted_92 (lv_at hl 7 rfl) ?_
              replace hf := xsBd_use hf
              obtain ⟨o32, h33, hf⟩ := hf
              refine xs_calli hS (xs_runS (As := [.int (o6.2.2.2.2.2.2.2.2.2.2.2.2.1 (o6.2.2.2.2.2.2.2.2.2.2.2.2.2.1 y9.toNatClampNeg).toNatClampNeg), .int y14]) C (mX11_holds l  h33) w_1700 w_1701 w_115 w_1702 hd_X11_holds ⟨rfl, rfl, Nat.le_of_ble_eq_true rfl, Nat.le_of_ble_eq_true rfl, Nat.zero_le _, Nat.zero_le _⟩ hP hD hS hl.1 rfl (Nat.le_of_ble_eq_true rfl) dX11_tinted_94) (fun H locs hP hD hS => ?_)
              have K39 : ∀ (y34 : Int32) (y35 : Int32) (hf : fX11_tinted_J145 y14 y34 y35 = some u15) (H : Heap) (locs : List Loc) (ls : Array Slot), va_P (xsD X) vwCl (wM X o4.2 mWorld mImage mDraft mEarlier mRemembered mHasImage o6.1 o6.2.1 o6.2.2.1 o6.2.2.2.1 o6.2.2.2.2.1 o6.2.2.2.2.2.1 o6.2.2.2.2.2.2.1 o6.2.2.2.2.2.2.2.1 o6.2.2.2.2.2.2.2.2.1 o6.2.2.2.2.2.2.2.2.2.1 o6.2.2.2.2.2.2.2.2.2.2.1 o6.2.2.2.2.2.2.2.2.2.2.2.1 o6.2.2.2.2.2.2.2.2.2.2.2.2.1 o6.2.2.2.2.2.2.2.2.2.2.2.2.2.1 o6.2.2.2.2.2.2.2.2.2.2.2.2.2.2.1 o6.2.2.2.2.2.2.2.2.2.2.2.2.2.2.2.1 o6.2.2.2.2.2.2.2.2.2.2.2.2.2.2.2.2.1 o6.2.2.2.2.2.2.2.2.2.2.2.2.2.2.2.2.2.1 o6.2.2.2.2.2.2.2.2.2.2.2.2.2.2.2.2.2.2 mMet mUpper mLower mTape mTaped mPoint mEnd mBegin mFaultAt mFive mTold mActs mFar mViews mHullX mHullY mEndX mEndY mHeightUp mHeightLow mMeets mMeetsOf Rw) H → va_D (xsF X) (wM X o4.2 mWorld mImage mDraft mEarlier mRemembered mHasImage o6.1 o6.2.1 o6.2.2.1 o6.2.2.2.1 o6.2.2.2.2.1 o6.2.2.2.2.2.1 o6.2.2.2.2.2.2.1 o6.2.2.2.2.2.2.2.1 o6.2.2.2.2.2.2.2.2.1 o6.2.2.2.2.2.2.2.2.2.1 o6.2.2.2.2.2.2.2.2.2.2.1 o6.2.2.2.2.2.2.2.2.2.2.2.1 o6.2.2.2.2.2.2.2.2.2.2.2.2.1 o6.2.2.2.2.2.2.2.2.2.2.2.2.2.1 o6.2.2.2.2.2.2.2.2.2.2.2.2.2.2.1 o6.2.2.2.2.2.2.2.2.2.2.2.2.2.2.2.1 o6.2.2.2.2.2.2.2.2.2.2.2.2.2.2.2.2.1 o6.2.2.2.2.2.2.2.2.2.2.2.2.2.2.2.2.2.1 o6.2.2.2.2.2.2.2.2.2.2.2.2.2.2.2.2.2.2 mMet mUpper mLower mTape mTaped mPoint mEnd mBegin mFaultAt mFive mTold mActs mFar mViews mHullX mHullY mEndX mEndY mHeightUp mHeightLow mMeets mMeetsOf Rw) → va_S (xsF X) s.heap H locs → lv_has ls 8 [(0, .ref (xsA X 100)), (1, .int a0), (2, .int a1), (3, .int y8), (4, .int y9), (5, .int y34), (6, .int y35), (7, .int y14)] → W p l e { frames := 6, cells := 0, slots := 0, locals := 164 } s m ([.ref (xsA X 100), .int a0, .int a1] : List Value).toArray below meth c H locs 0 0 (MQ below Qq ([.ref (xsA X 100), .int a0, .int a1] : List Value).toArray s 0 0 (xsF X)) (F0 m 145 ls []) := by
                intro y34 y35 hf H locs ls hP hD hS hl
                unfold fX11_tinted_J145 at hf
                obtain ⟨x36, ex36⟩ : ∃ y : Int32, y = y14 + (1 : Int32) := ⟨_, rfl⟩
                replace hf := xsLt_use ex36 hf
                refine lv_iinc (v := x36) (lv' := [(7, .int x36), (0, .ref (xsA X 100)), (1, .int a0), (2, .int a1), (3, .int y8), (4, .int y9), (5, .int y34), (6, .int y35)]) hx hb dX11_tinted_145 hl (k := 7) rfl (by rw [ex36]; rfl) (by decide) rfl (fun ls hl => ?_)
                refine lv_goto (tgt := 71) hx hb dX11_tinted_148 (by decide) ?_
                exact ih15 _ (Option.some.inj hf).symm hk15 H locs ls hP hD hS (lv_sub hl [1, 2, 3, 4, 5, 6, 7, 0] rfl)
              replace hf := xsBd_use hf
              obtain ⟨v37, hf, hk38⟩ := hf
              refine lv_if_ne (tgt := 103) hx hb dX11_tinted_97 (by decide) (fun c56 => ?_) (fun c56 => ?_)
              · replace hf := xsBr_f c56 hf
                refine lv_iload hx hb dX11_tinted_103 (lv_at hl 5 rfl) ?_
                refine lv_aload_n hx hb dX11_tinted_105 rfl (lv_at hl 0 rfl) ?_
                refine lv_iload hx hb dX11_tinted_106 (lv_at hl 7 rfl) ?_
                refine lv_iconst (v := (4 : Int32)) hx hb dX11_tinted_108 (by decide) ?_
                replace hf := xsBd_use hf
                obtain ⟨o40, h41, hf⟩ := hf
                refine xs_calli hS (xs_runV (As := [.int y14, .int (4 : Int32)]) C (mX11_of l  h41) w_1608 w_1610 w_50 w_115 w_1611 hd_X11_of ⟨rfl, rfl, Nat.le_of_ble_eq_true rfl, Nat.le_of_ble_eq_true rfl, Nat.zero_le _, Nat.zero_le _⟩ hP hD hS lk_X11 rfl hl.1 rfl (Nat.le_of_ble_eq_true rfl) dX11_tinted_109) (fun H locs hP hD hS => ?_)
                refine lv_iload_n hx hb dX11_tinted_112 rfl (lv_at hl 1 rfl) ?_
                have K54 : ∀ (y42 : Int32) (hf : fX11_tinted_J121 mWorld a1 y12 y13 y14 y42 = some v37) (H : Heap) (locs : List Loc) (ls : Array Slot), va_P (xsD X) vwCl (wM X o4.2 mWorld mImage mDraft mEarlier mRemembered mHasImage o6.1 o6.2.1 o6.2.2.1 o6.2.2.2.1 o6.2.2.2.2.1 o6.2.2.2.2.2.1 o6.2.2.2.2.2.2.1 o6.2.2.2.2.2.2.2.1 o6.2.2.2.2.2.2.2.2.1 o6.2.2.2.2.2.2.2.2.2.1 o6.2.2.2.2.2.2.2.2.2.2.1 o6.2.2.2.2.2.2.2.2.2.2.2.1 o6.2.2.2.2.2.2.2.2.2.2.2.2.1 o6.2.2.2.2.2.2.2.2.2.2.2.2.2.1 o6.2.2.2.2.2.2.2.2.2.2.2.2.2.2.1 o6.2.2.2.2.2.2.2.2.2.2.2.2.2.2.2.1 o6.2.2.2.2.2.2.2.2.2.2.2.2.2.2.2.2.1 o6.2.2.2.2.2.2.2.2.2.2.2.2.2.2.2.2.2.1 o6.2.2.2.2.2.2.2.2.2.2.2.2.2.2.2.2.2.2 mMet mUpper mLower mTape mTaped mPoint mEnd mBegin mFaultAt mFive mTold mActs mFar mViews mHullX mHullY mEndX mEndY mHeightUp mHeightLow mMeets mMeetsOf Rw) H → va_D (xsF X) (wM X o4.2 mWorld mImage mDraft mEarlier mRemembered mHasImage o6.1 o6.2.1 o6.2.2.1 o6.2.2.2.1 o6.2.2.2.2.1 o6.2.2.2.2.2.1 o6.2.2.2.2.2.2.1 o6.2.2.2.2.2.2.2.1 o6.2.2.2.2.2.2.2.2.1 o6.2.2.2.2.2.2.2.2.2.1 o6.2.2.2.2.2.2.2.2.2.2.1 o6.2.2.2.2.2.2.2.2.2.2.2.1 o6.2.2.2.2.2.2.2.2.2.2.2.2.1 o6.2.2.2.2.2.2.2.2.2.2.2.2.2.1 o6.2.2.2.2.2.2.2.2.2.2.2.2.2.2.1 o6.2.2.2.2.2.2.2.2.2.2.2.2.2.2.2.1 o6.2.2.2.2.2.2.2.2.2.2.2.2.2.2.2.2.1 o6.2.2.2.2.2.2.2.2.2.2.2.2.2.2.2.2.2.1 o6.2.2.2.2.2.2.2.2.2.2.2.2.2.2.2.2.2.2 mMet mUpper mLower mTape mTaped mPoint mEnd mBegin mFaultAt mFive mTold mActs mFar mViews mHullX mHullY mEndX mEndY mHeightUp mHeightLow mMeets mMeetsOf Rw) → va_S (xsF X) s.heap H locs → lv_has ls 8 [(0, .ref (xsA X 100)), (1, .int a0), (2, .int a1), (3, .int y8), (4, .int y9), (6, .int y13), (7, .int y14)] → W p l e { frames := 6, cells := 0, slots := 0, locals := 164 } s m ([.ref (xsA X 100), .int a0, .int a1] : List Value).toArray below meth c H locs 0 0 (MQ below Qq ([.ref (xsA X 100), .int a0, .int a1] : List Value).toArray s 0 0 (xsF X)) (F0 m 121 ls [.int y42, .int y12]) := by
                  intro y42 hf H locs ls hP hD hS hl
                  unfold fX11_tinted_J121 at hf
                  refine lv_iadd hx hb dX11_tinted_121 ?_
                  refine lv_topi (fun x43 ex43 => ?_)
                  replace hf := xsLt_use ex43 hf
                  refine lv_istore (lv' := [(5, .int x43), (0, .ref (xsA X 100)), (1, .int a0), (2, .int a1), (3, .int y8), (4, .int y9), (6, .int y13), (7, .int y14)]) hx hb dX11_tinted_122 hl (by decide) rfl (fun ls hl => ?_)
                  refine lv_iload hx hb dX11_tinted_124 (lv_at hl 6 rfl) ?_
                  refine lv_aload_n hx hb dX11_tinted_126 rfl (lv_at hl 1 rfl) ?_
                  refine lv_iload hx hb dX11_tinted_127 (lv_at hl 7 rfl) ?_
                  refine lv_iconst (v := (4 : Int32)) hx hb dX11_tinted_129 (by decide) ?_
                  replace hf := xsBd_use hf
                  obtain ⟨o44, h45, hf⟩ := hf
                  refine xs_calli hS (xs_runV (As := [.int y14, .int (4 : Int32)]) C (mX11_of l  h45) w_1608 w_1610 w_50 w_115 w_1611 hd_X11_of ⟨rfl, rfl, Nat.le_of_ble_eq_true rfl, Nat.le_of_ble_eq_true rfl, Nat.zero_le _, Nat.zero_le _⟩ hP hD hS lk_X11 rfl hl.1 rfl (Nat.le_of_ble_eq_true rfl) dX11_tinted_130) (fun H locs hP hD hS => ?_)
                  refine lv_iload_n hx hb dX11_tinted_133 rfl (lv_at hl 3 rfl) ?_
                  have K50 : ∀ (y46 : Int32) (hf : fX11_tinted_J142 y13 x43 y46 = some v37) (H : Heap) (locs : List Loc) (ls : Array Slot), va_P (xsD X) vwCl (wM X o4.2 mWorld mImage mDraft mEarlier mRemembered mHasImage o6.1 o6.2.1 o6.2.2.1 o6.2.2.2.1 o6.2.2.2.2.1 o6.2.2.2.2.2.1 o6.2.2.2.2.2.2.1 o6.2.2.2.2.2.2.2.1 o6.2.2.2.2.2.2.2.2.1 o6.2.2.2.2.2.2.2.2.2.1 o6.2.2.2.2.2.2.2.2.2.2.1 o6.2.2.2.2.2.2.2.2.2.2.2.1 o6.2.2.2.2.2.2.2.2.2.2.2.2.1 o6.2.2.2.2.2.2.2.2.2.2.2.2.2.1 o6.2.2.2.2.2.2.2.2.2.2.2.2.2.2.1 o6.2.2.2.2.2.2.2.2.2.2.2.2.2.2.2.1 o6.2.2.2.2.2.2.2.2.2.2.2.2.2.2.2.2.1 o6.2.2.2.2.2.2.2.2.2.2.2.2.2.2.2.2.2.1 o6.2.2.2.2.2.2.2.2.2.2.2.2.2.2.2.2.2.2 mMet mUpper mLower mTape mTaped mPoint mEnd mBegin mFaultAt mFive mTold mActs mFar mViews mHullX mHullY mEndX mEndY mHeightUp mHeightLow mMeets mMeetsOf Rw) H → va_D (xsF X) (wM X o4.2 mWorld mImage mDraft mEarlier mRemembered mHasImage o6.1 o6.2.1 o6.2.2.1 o6.2.2.2.1 o6.2.2.2.2.1 o6.2.2.2.2.2.1 o6.2.2.2.2.2.2.1 o6.2.2.2.2.2.2.2.1 o6.2.2.2.2.2.2.2.2.1 o6.2.2.2.2.2.2.2.2.2.1 o6.2.2.2.2.2.2.2.2.2.2.1 o6.2.2.2.2.2.2.2.2.2.2.2.1 o6.2.2.2.2.2.2.2.2.2.2.2.2.1 o6.2.2.2.2.2.2.2.2.2.2.2.2.2.1 o6.2.2.2.2.2.2.2.2.2.2.2.2.2.2.1 o6.2.2.2.2.2.2.2.2.2.2.2.2.2.2.2.1 o6.2.2.2.2.2.2.2.2.2.2.2.2.2.2.2.2.1 o6.2.2.2.2.2.2.2.2.2.2.2.2.2.2.2.2.2.1 o6.2.2.2.2.2.2.2.2.2.2.2.2.2.2.2.2.2.2 mMet mUpper mLower mTape mTaped mPoint mEnd mBegin mFaultAt mFive mTold mActs mFar mViews mHullX mHullY mEndX mEndY mHeightUp mHeightLow mMeets mMeetsOf Rw) → va_S (xsF X) s.heap H locs → lv_has ls 8 [(0, .ref (xsA X 100)), (1, .int a0), (2, .int a1), (3, .int y8), (4, .int y9), (5, .int x43), (7, .int y14)] → W p l e { frames := 6, cells := 0, slots := 0, locals := 164 } s m ([.ref (xsA X 100), .int a0, .int a1] : List Value).toArray below meth c H locs 0 0 (MQ below Qq ([.ref (xsA X 100), .int a0, .int a1] : List Value).toArray s 0 0 (xsF X)) (F0 m 142 ls [.int y46, .int y13]) := by
                    intro y46 hf H locs ls hP hD hS hl
                    unfold fX11_tinted_J142 at hf
                    refine lv_iadd hx hb dX11_tinted_142 ?_
                    refine lv_topi (fun x47 ex47 => ?_)
                    replace hf := xsLt_use ex47 hf
                    refine lv_istore (lv' := [(6, .int x47), (0, .ref (xsA X 100)), (1, .int a0), (2, .int a1), (3, .int y8), (4, .int y9), (5, .int x43), (7, .int y14)]) hx hb dX11_tinted_143 hl (by decide) rfl (fun ls hl => ?_)
                    have ev := Option.some.inj hf
                    subst ev
                    exact K39 x43 x47 hk38 H locs ls hP hD hS (lv_sub hl [1, 2, 3, 4, 5, 6, 0, 7] rfl)
                  replace hf := xsBd_use hf
                  obtain ⟨v48, hf, hk49⟩ := hf
                  refine lv_icmp_ne (tgt := 141) hx hb dX11_tinted_134 (by decide) (fun c51 => ?_) (fun c51 => ?_)
                  · replace hf := xsBr_f c51 hf
                    refine lv_iconst (v := (0 : Int32)) hx hb dX11_tinted_141 (by decide) ?_
                    have ev := Option.some.inj hf
                    subst ev
                    exact K50 (0 : Int32) hk49 H locs ls hP hD hS (lv_sub hl [1, 2, 3, 4, 5, 0, 7] rfl)
                  · replace hf := xsBr_t c51 hf
                    refine lv_iconst (v := (1 : Int32)) hx hb dX11_tinted_137 (by decide) ?_
                    refine lv_goto (tgt := 142) hx hb dX11_tinted_138 (by decide) ?_
                    have ev := Option.some.inj hf
                    subst ev
                    exact K50 (1 : Int32) hk49 H locs ls hP hD hS (lv_sub hl [1, 2, 3, 4, 5, 0, 7] rfl)
                replace hf := xsBd_use hf
                obtain ⟨v52, hf, hk53⟩ := hf
                refine lv_icmp_ne (tgt := 120) hx hb dX11_tinted_113 (by decide) (fun c55 => ?_) (fun c55 => ?_)
                · replace hf := xsBr_f c55 hf
                  refine lv_iconst (v := (0 : Int32)) hx hb dX11_tinted_120 (by decide) ?_
                  have ev := Option.some.inj hf
                  subst ev
                  exact K54 (0 : Int32) hk53 H locs ls hP hD hS (lv_sub hl [0, 1, 2, 3, 4, 6, 7] rfl)
                · replace hf := xsBr_t c55 hf
                  refine lv_iconst (v := (1 : Int32)) hx hb dX11_tinted_116 (by decide) ?_
                  refine lv_goto (tgt := 121) hx hb dX11_tinted_117 (by decide) ?_
                  have ev := Option.some.inj hf
                  subst ev
                  exact K54 (1 : Int32) hk53 H locs ls hP hD hS (lv_sub hl [0, 1, 2, 3, 4, 6, 7] rfl)
              · replace hf := xsBr_t c56 hf
                refine lv_goto (tgt := 145) hx hb dX11_tinted_100 (by decide) ?_
                have ev := Option.some.inj hf
                subst ev
                exact K39 y12 y13 hk38 H locs ls hP hD hS (lv_sub hl [0, 1, 2, 3, 4, 5, 6, 7] rfl)
          exact L15 ((0 : Int32), (0 : Int32), (0 : Int32)) r15 hk150 hf H locs ls hP hD hS (lv_sub hl [3, 4, 5, 6, 7, 2, 1, 0] rfl)
      exact L10 ((0 : Int32), (0 : Int32)) r10 hk100 hf H locs ls hP hD hS (lv_sub hl [2, 3, 4, 1, 0] rfl)
    · replace hf := xsBr_f c59 hf
      refine lv_iconst (v := (0 : Int32)) hx hb dX11_tinted_42 (by decide) ?_
      have ho := Option.some.inj hf
      subst ho
      rw [hQq]
      exact xs_iret C hr hlk hP hD hS dX11_tinted_43
  replace hf := xsBd_use hf
  obtain ⟨v60, hf, hk61⟩ := hf
  refine lv_if_eq (tgt := 30) hx hb dX11_tinted_15 (by decide) (fun c66 => ?_) (fun c66 => ?_)
  · replace hf := xsBr_t c66 hf
    refine lv_iconst (v := (1 : Int32)) hx hb dX11_tinted_30 (by decide) ?_
    refine lv_goto (tgt := 35) hx hb dX11_tinted_31 (by decide) ?_
    have ev := Option.some.inj hf
    subst ev
    exact K62 (1 : Int32) hk61 H locs ls hP hD hS (lv_sub hl [0, 1, 2] rfl)
  · replace hf := xsBr_f c66 hf
    refine lv_iload_n hx hb dX11_tinted_18 rfl (lv_at hl 2 rfl) ?_
    refine lv_i2l hx hb dX11_tinted_19 rfl ?_
    refine lv_lconst (v := (0 : Int64)) hx hb dX11_tinted_20 (by decide) ?_
    refine lv_ldc2 (v := (3 : Int64)) hx hb C.2.2.2.1 (xs_kts C _ w_1572) dX11_tinted_21 ?_
    replace hf := xsBd_use hf
    obtain ⟨o63, h64, hf⟩ := hf
    refine xs_calli hS (xs_runS (As := [.long a1.toInt64, .long (0 : Int64), .long (3 : Int64)]) C (mX11_in l  h64) w_1573 w_1574 w_115 w_1575 hd_X11_in ⟨rfl, rfl, Nat.le_of_ble_eq_true rfl, Nat.le_of_ble_eq_true rfl, Nat.zero_le _, Nat.zero_le _⟩ hP hD hS hl.1 rfl (Nat.le_of_ble_eq_true rfl) dX11_tinted_24) (fun H locs hP hD hS => ?_)
    refine lv_if_ne (tgt := 34) hx hb dX11_tinted_27 (by decide) (fun c65 => ?_) (fun c65 => ?_)
    · replace hf := xsBr_f c65 hf
      refine lv_iconst (v := (0 : Int32)) hx hb dX11_tinted_34 (by decide) ?_
      have ev := Option.some.inj hf
      subst ev
      exact K62 (0 : Int32) hk61 H locs ls hP hD hS (lv_sub hl [0, 1, 2] rfl)
    · replace hf := xsBr_t c65 hf
      refine lv_iconst (v := (1 : Int32)) hx hb dX11_tinted_30 (by decide) ?_
      refine lv_goto (tgt := 35) hx hb dX11_tinted_31 (by decide) ?_
      have ev := Option.some.inj hf
      subst ev
      exact K62 (1 : Int32) hk61 H locs ls hP hD hS (lv_sub hl [0, 1, 2] rfl)
set_option maxRecDepth 100000 in
set_option maxHeartbeats 8000000 in
theorem mX11_pairs (l : Launch) {X : xsX} {mThrown mRemembered mHasImage mIsLaid mEvents mCrossings mEdges mTaped mPoint mEnd mBegin mFaultAt mActs : Int32} {mWorld mImage mDraft mEarlier mOne mTwo mShare mCrossingOf mBundle mEventOf mDegree mFrom mTo mMet mTape mFive mTold mFar mViews mHullX mHullY mEndX mEndY mMeets mMeetsOf : Nat → Int32} {mX mY mD mHeightUp mHeightLow : Int64} {mEventX mEventY mEventD mUpper mLower : Nat → Int64} {Rw : va_W} {a0 : Int32} {out : Int32 × (Nat → Int32) × (Nat → Int32) × (Nat → Int32) × Int64 × Int64 × Int64} (hf : fX11_pairs mWorld mOne mTwo mShare mX mY mD a0 = some out) : Met l yX11_pairs (xsWs yX11_pairs cX11_pairs 5 (some .int)) { frames := 5, cells := 0, slots := 0, locals := 141 } (xsP X (wM X mThrown mWorld mImage mDraft mEarlier mRemembered mHasImage mIsLaid mOne mTwo mShare mX mY mD mEventX mEventY mEventD mEvents mCrossingOf mBundle mEventOf mDegree mFrom mTo mCrossings mEdges mMet mUpper mLower mTape mTaped mPoint mEnd mBegin mFaultAt mFive mTold mActs mFar mViews mHullX mHullY mEndX mEndY mHeightUp mHeightLow mMeets mMeetsOf Rw) [.ref (xsA X 100), .int a0]) (xsQi X out.1 (wM X mThrown mWorld mImage mDraft mEarlier mRemembered mHasImage mIsLaid out.2.1 out.2.2.1 out.2.2.2.1 out.2.2.2.2.1 out.2.2.2.2.2.1 out.2.2.2.2.2.2 mEventX mEventY mEventD mEvents mCrossingOf mBundle mEventOf mDegree mFrom mTo mCrossings mEdges mMet mUpper mLower mTape mTaped mPoint mEnd mBegin mFaultAt mFive mTold mActs mFar mViews mHullX mHullY mEndX mEndY mHeightUp mHeightLow mMeets mMeetsOf Rw)) 0 0 (xsF X) := by
  refine xs_meth RX11 (by decide) rfl (Nat.le_of_ble_eq_true rfl) ?_
  intro p e s m below meth c ls H locs C hP hD hS hr hlk hl
  have hx := C.1
  have hb := C.2.1
  have hl : lv_has ls 5 [(0, .ref (xsA X 100)), (1, .int a0)] := hl
  obtain ⟨Qq, hQq⟩ : ∃ Qq, Qq = xsQi X out.1 (wM X mThrown mWorld mImage mDraft mEarlier mRemembered mHasImage mIsLaid out.2.1 out.2.2.1 out.2.2.2.1 out.2.2.2.2.1 out.2.2.2.2.2.1 out.2.2.2.2.2.2 mEventX mEventY mEventD mEvents mCrossingOf mBundle mEventOf mDegree mFrom mTo mCrossings mEdges mMet mUpper mLower mTape mTaped mPoint mEnd mBegin mFaultAt mFive mTold mActs mFar mViews mHullX mHullY mEndX mEndY mHeightUp mHeightLow mMeets mMeetsOf Rw) := ⟨_, rfl⟩
  rw [← hQq]
  unfold fX11_pairs at hf
  refine lv_iconst (v := (0 : Int32)) hx hb dX11_pairs_0 (by decide) ?_
  refine lv_istore_n (lv' := [(2, .int (0 : Int32)), (0, .ref (xsA X 100)), (1, .int a0)]) hx hb dX11_pairs_1 rfl hl (by decide) rfl (fun ls hl => ?_)
  refine lv_iconst (v := (0 : Int32)) hx hb dX11_pairs_2 (by decide) ?_
  refine lv_istore_n (lv' := [(3, .int (0 : Int32)), (2, .int (0 : Int32)), (0, .ref (xsA X 100)), (1, .int a0)]) hx hb dX11_pairs_3 rfl hl (by decide) rfl (fun ls hl => ?_)
  have K9 : ∀ (y10 : Int32) (y11 : Nat → Int32) (y12 : Nat → Int32) (y13 : Nat → Int32) (y14 : Int64) (y15 : Int64) (y16 : Int64) (hf : fX11_pairs_J52 y10 y11 y12 y13 y14 y15 y16 = some out) (H : Heap) (locs : List Loc) (ls : Array Slot), va_P (xsD X) vwCl (wM X mThrown mWorld mImage mDraft mEarlier mRemembered mHasImage mIsLaid y11 y12 y13 y14 y15 y16 mEventX mEventY mEventD mEvents mCrossingOf mBundle mEventOf mDegree mFrom mTo mCrossings mEdges mMet mUpper mLower mTape mTaped mPoint mEnd mBegin mFaultAt mFive mTold mActs mFar mViews mHullX mHullY mEndX mEndY mHeightUp mHeightLow mMeets mMeetsOf Rw) H → va_D (xsF X) (wM X mThrown mWorld mImage mDraft mEarlier mRemembered mHasImage mIsLaid y11 y12 y13 y14 y15 y16 mEventX mEventY mEventD mEvents mCrossingOf mBundle mEventOf mDegree mFrom mTo mCrossings mEdges mMet mUpper mLower mTape mTaped mPoint mEnd mBegin mFaultAt mFive mTold mActs mFar mViews mHullX mHullY mEndX mEndY mHeightUp mHeightLow mMeets mMeetsOf Rw) → va_S (xsF X) s.heap H locs → lv_has ls 5 [(2, .int y10)] → W p l e { frames := 5, cells := 0, slots := 0, locals := 141 } s m ([.ref (xsA X 100), .int a0] : List Value).toArray below meth c H locs 0 0 (MQ below Qq ([.ref (xsA X 100), .int a0] : List Value).toArray s 0 0 (xsF X)) (F0 m 52 ls []) := by
    intro y10 y11 y12 y13 y14 y15 y16 hf H locs ls hP hD hS hl
    unfold fX11_pairs_J52 at hf
    refine lv_iload_n hx hb dX11_pairs_52 rfl (lv_at hl 0 rfl) ?_
    have ho := Option.some.inj hf
    subst ho
    rw [hQq]
    exact xs_iret C hr hlk hP hD hS dX11_pairs_53
  replace hf := xsBd_use hf
  obtain ⟨r9, hk90, hf⟩ := hf
  have L9 : ∀ (sg : Int32 × Int32 × (Nat → Int32) × (Nat → Int32) × (Nat → Int32) × Int64 × Int64 × Int64) (rg : Int32 × (Nat → Int32) × (Nat → Int32) × (Nat → Int32) × Int64 × Int64 × Int64), xsWh (fun s9 => fX11_pairs_L4 mWorld a0 s9.1 s9.2.1 s9.2.2.1 s9.2.2.2.1 s9.2.2.2.2.1 s9.2.2.2.2.2.1 s9.2.2.2.2.2.2.1 s9.2.2.2.2.2.2.2) sg = some rg → (fX11_pairs_J52 rg.1 rg.2.1 rg.2.2.1 rg.2.2.2.1 rg.2.2.2.2.1 rg.2.2.2.2.2.1 rg.2.2.2.2.2.2 = some out → ∀ (H : Heap) (locs : List Loc) (ls : Array Slot), va_P (xsD X) vwCl (wM X mThrown mWorld mImage mDraft mEarlier mRemembered mHasImage mIsLaid sg.2.2.1 sg.2.2.2.1 sg.2.2.2.2.1 sg.2.2.2.2.2.1 sg.2.2.2.2.2.2.1 sg.2.2.2.2.2.2.2 mEventX mEventY mEventD mEvents mCrossingOf mBundle mEventOf mDegree mFrom mTo mCrossings mEdges mMet mUpper mLower mTape mTaped mPoint mEnd mBegin mFaultAt mFive mTold mActs mFar mViews mHullX mHullY mEndX mEndY mHeightUp mHeightLow mMeets mMeetsOf Rw) H → va_D (xsF X) (wM X mThrown mWorld mImage mDraft mEarlier mRemembered mHasImage mIsLaid sg.2.2.1 sg.2.2.2.1 sg.2.2.2.2.1 sg.2.2.2.2.2.1 sg.2.2.2.2.2.2.1 sg.2.2.2.2.2.2.2 mEventX mEventY mEventD mEvents mCrossingOf mBundle mEventOf mDegree mFrom mTo mCrossings mEdges mMet mUpper mLower mTape mTaped mPoint mEnd mBegin mFaultAt mFive mTold mActs mFar mViews mHullX mHullY mEndX mEndY mHeightUp mHeightLow mMeets mMeetsOf Rw) → va_S (xsF X) s.heap H locs → lv_has ls 5 [(0, .ref (xsA X 100)), (1, .int a0), (2, .int sg.1), (3, .int sg.2.1)] → W p l e { frames := 5, cells := 0, slots := 0, locals := 141 } s m ([.ref (xsA X 100), .int a0] : List Value).toArray below meth c H locs 0 0 (MQ below Qq ([.ref (xsA X 100), .int a0] : List Value).toArray s 0 0 (xsF X)) (F0 m 4 ls [])) := by
    refine xsWh_ind ?_
    intro sg r9 u9 hf ih9 hx9 hk9 H locs ls hP hD hS hl
    obtain ⟨y1, y2, y3, y4, y5, y6, y7, y8⟩ := sg
    replace hf : fX11_pairs_L4 mWorld a0 y1 y2 y3 y4 y5 y6 y7 y8 = some u9 := hf
    replace hl : lv_has ls 5 [(0, .ref (xsA X 100)), (1, .int a0), (2, .int y1), (3, .int y2)] := hl
    replace hP : va_P (xsD X) vwCl (wM X mThrown mWorld mImage mDraft mEarlier mRemembered mHasImage mIsLaid y3 y4 y5 y6 y7 y8 mEventX mEventY mEventD mEvents mCrossingOf mBundle mEventOf mDegree mFrom mTo mCrossings mEdges mMet mUpper mLower mTape mTaped mPoint mEnd mBegin mFaultAt mFive mTold mActs mFar mViews mHullX mHullY mEndX mEndY mHeightUp mHeightLow mMeets mMeetsOf Rw) H := hP
    replace hD : va_D (xsF X) (wM X mThrown mWorld mImage mDraft mEarlier mRemembered mHasImage mIsLaid y3 y4 y5 y6 y7 y8 mEventX mEventY mEventD mEvents mCrossingOf mBundle mEventOf mDegree mFrom mTo mCrossings mEdges mMet mUpper mLower mTape mTaped mPoint mEnd mBegin mFaultAt mFive mTold mActs mFar mViews mHullX mHullY mEndX mEndY mHeightUp mHeightLow mMeets mMeetsOf Rw) := hD
    unfold fX11_pairs_L4 at hf
    refine lv_iload_n hx hb dX11_pairs_4 rfl (lv_at hl 3 rfl) ?_
    refine lv_aload_n hx hb dX11_pairs_5 rfl (lv_at hl 0 rfl) ?_
    replace hf := xsBd_use hf
    obtain ⟨o17, h18, hf⟩ := hf
    refine xs_calli hS (xs_runV (As := []) C (mX11_many l  h18) w_1581 w_1583 w_44 w_115 w_1584 hd_X11_many ⟨rfl, rfl, Nat.le_of_ble_eq_true rfl, Nat.le_of_ble_eq_true rfl, Nat.zero_le _, Nat.zero_le _⟩ hP hD hS lk_X11 rfl hl.1 rfl (Nat.le_of_ble_eq_true rfl) dX11_pairs_6) (fun H locs hP hD hS => ?_)
    refine lv_icmp_ge (tgt := 52) hx hb dX11_pairs_9 (by decide) (fun c46 => ?_) (fun c46 => ?_)
    · replace hf := xsBr_t c46 hf
      have ez := hx9 _ (Option.some.inj hf).symm
      subst ez
      exact K9 y1 y3 y4 y5 y6 y7 y8 hk9 H locs ls hP hD hS (lv_sub hl [2] rfl)
    · replace hf := xsBr_f c46 hf
      refine lv_iconst (v := (0 : Int32)) hx hb dX11_pairs_12 (by decide) ?_
      refine lv_istore (lv' := [(4, .int (0 : Int32)), (0, .ref (xsA X 100)), (1, .int a0), (2, .int y1), (3, .int y2)]) hx hb dX11_pairs_13 hl (by decide) rfl (fun ls hl => ?_)
      have K27 : ∀ (y28 : Int32) (y29 : Nat → Int32) (y30 : Nat → Int32) (y31 : Nat → Int32) (y32 : Int64) (y33 : Int64) (y34 : Int64) (hf : fX11_pairs_J46 y2 y28 y29 y30 y31 y32 y33 y34 = some u9) (H : Heap) (locs : List Loc) (ls : Array Slot), va_P (xsD X) vwCl (wM X mThrown mWorld mImage mDraft mEarlier mRemembered mHasImage mIsLaid y29 y30 y31 y32 y33 y34 mEventX mEventY mEventD mEvents mCrossingOf mBundle mEventOf mDegree mFrom mTo mCrossings mEdges mMet mUpper mLower mTape mTaped mPoint mEnd mBegin mFaultAt mFive mTold mActs mFar mViews mHullX mHullY mEndX mEndY mHeightUp mHeightLow mMeets mMeetsOf Rw) H → va_D (xsF X) (wM X mThrown mWorld mImage mDraft mEarlier mRemembered mHasImage mIsLaid y29 y30 y31 y32 y33 y34 mEventX mEventY mEventD mEvents mCrossingOf mBundle mEventOf mDegree mFrom mTo mCrossings mEdges mMet mUpper mLower mTape mTaped mPoint mEnd mBegin mFaultAt mFive mTold mActs mFar mViews mHullX mHullY mEndX mEndY mHeightUp mHeightLow mMeets mMeetsOf Rw) → va_S (xsF X) s.heap H locs → lv_has ls 5 [(0, .ref (xsA X 100)), (1, .int a0), (2, .int y28), (3, .int y2)] → W p l e { frames := 5, cells := 0, slots := 0, locals := 141 } s m ([.ref (xsA X 100), .int a0] : List Value).toArray below meth c H locs 0 0 (MQ below Qq ([.ref (xsA X 100), .int a0] : List Value).toArray s 0 0 (xsF X)) (F0 m 46 ls []) := by
        intro y28 y29 y30 y31 y32 y33 y34 hf H locs ls hP hD hS hl
        unfold fX11_pairs_J46 at hf
        obtain ⟨x35, ex35⟩ : ∃ y : Int32, y = y2 + (1 : Int32) := ⟨_, rfl⟩
        replace hf := xsLt_use ex35 hf
        refine lv_iinc (v := x35) (lv' := [(3, .int x35), (0, .ref (xsA X 100)), (1, .int a0), (2, .int y28)]) hx hb dX11_pairs_46 hl (k := 3) rfl (by rw [ex35]; rfl) (by decide) rfl (fun ls hl => ?_)
        refine lv_goto (tgt := 4) hx hb dX11_pairs_49 (by decide) ?_
        exact ih9 _ (Option.some.inj hf).symm hk9 H locs ls hP hD hS (lv_sub hl [1, 2, 3, 0] rfl)
      replace hf := xsBd_use hf
      obtain ⟨r27, hk270, hf⟩ := hf
      have L27 : ∀ (sg : Int32 × Int32 × (Nat → Int32) × (Nat → Int32) × (Nat → Int32) × Int64 × Int64 × Int64) (rg : Int32 × (Nat → Int32) × (Nat → Int32) × (Nat → Int32) × Int64 × Int64 × Int64), xsWh (fun s27 => fX11_pairs_L15 mWorld a0 y2 s27.1 s27.2.1 s27.2.2.1 s27.2.2.2.1 s27.2.2.2.2.1 s27.2.2.2.2.2.1 s27.2.2.2.2.2.2.1 s27.2.2.2.2.2.2.2) sg = some rg → (fX11_pairs_J46 y2 rg.1 rg.2.1 rg.2.2.1 rg.2.2.2.1 rg.2.2.2.2.1 rg.2.2.2.2.2.1 rg.2.2.2.2.2.2 = some u9 → ∀ (H : Heap) (locs : List Loc) (ls : Array Slot), va_P (xsD X) vwCl (wM X mThrown mWorld mImage mDraft mEarlier mRemembered mHasImage mIsLaid sg.2.2.1 sg.2.2.2.1 sg.2.2.2.2.1 sg.2.2.2.2.2.1 sg.2.2.2.2.2.2.1 sg.2.2.2.2.2.2.2 mEventX mEventY mEventD mEvents mCrossingOf mBundle mEventOf mDegree mFrom mTo mCrossings mEdges mMet mUpper mLower mTape mTaped mPoint mEnd mBegin mFaultAt mFive mTold mActs mFar mViews mHullX mHullY mEndX mEndY mHeightUp mHeightLow mMeets mMeetsOf Rw) H → va_D (xsF X) (wM X mThrown mWorld mImage mDraft mEarlier mRemembered mHasImage mIsLaid sg.2.2.1 sg.2.2.2.1 sg.2.2.2.2.1 sg.2.2.2.2.2.1 sg.2.2.2.2.2.2.1 sg.2.2.2.2.2.2.2 mEventX mEventY mEventD mEvents mCrossingOf mBundle mEventOf mDegree mFrom mTo mCrossings mEdges mMet mUpper mLower mTape mTaped mPoint mEnd mBegin mFaultAt mFive mTold mActs mFar mViews mHullX mHullY mEndX mEndY mHeightUp mHeightLow mMeets mMeetsOf Rw) → va_S (xsF X) s.heap H locs → lv_has ls 5 [(0, .ref (xsA X 100)), (1, .int a0), (2, .int sg.1), (3, .int y2), (4, .int sg.2.1)] → W p l e { frames := 5, cells := 0, slots := 0, locals := 141 } s m ([.ref (xsA X 100), .int a0] : List Value).toArray below meth c H locs 0 0 (MQ below Qq ([.ref (xsA X 100), .int a0] : List Value).toArray s 0 0 (xsF X)) (F0 m 15 ls [])) := by
        refine xsWh_ind ?_
        intro sg r27 u27 hf ih27 hx27 hk27 H locs ls hP hD hS hl
        obtain ⟨y19, y20, y21, y22, y23, y24, y25, y26⟩ := sg
        replace hf : fX11_pairs_L15 mWorld a0 y2 y19 y20 y21 y22 y23 y24 y25 y26 = some u27 := hf
        replace hl : lv_has ls 5 [(0, .ref (xsA X 100)), (1, .int a0), (2, .int y19), (3, .int y2), (4, .int y20)] := hl
        replace hP : va_P (xsD X) vwCl (wM X mThrown mWorld mImage mDraft mEarlier mRemembered mHasImage mIsLaid y21 y22 y23 y24 y25 y26 mEventX mEventY mEventD mEvents mCrossingOf mBundle mEventOf mDegree mFrom mTo mCrossings mEdges mMet mUpper mLower mTape mTaped mPoint mEnd mBegin mFaultAt mFive mTold mActs mFar mViews mHullX mHullY mEndX mEndY mHeightUp mHeightLow mMeets mMeetsOf Rw) H := hP
        replace hD : va_D (xsF X) (wM X mThrown mWorld mImage mDraft mEarlier mRemembered mHasImage mIsLaid y21 y22 y23 y24 y25 y26 mEventX mEventY mEventD mEvents mCrossingOf mBundle mEventOf mDegree mFrom mTo mCrossings mEdges mMet mUpper mLower mTape mTaped mPoint mEnd mBegin mFaultAt mFive mTold mActs mFar mViews mHullX mHullY mEndX mEndY mHeightUp mHeightLow mMeets mMeetsOf Rw) := hD
        unfold fX11_pairs_L15 at hf
        refine lv_iload hx hb dX11_pairs_15 (lv_at hl 4 rfl) ?_
        refine lv_iload_n hx hb dX11_pairs_17 rfl (lv_at hl 3 rfl) ?_
        refine lv_icmp_ge (tgt := 46) hx hb dX11_pairs_18 (by decide) (fun c45 => ?_) (fun c45 => ?_)
        · replace hf := xsBr_t c45 hf
          have ez := hx27 _ (Option.some.inj hf).symm
          subst ez
          exact K27 y19 y21 y22 y23 y24 y25 y26 hk27 H locs ls hP hD hS (lv_sub hl [0, 1, 2, 3] rfl)
        · replace hf := xsBr_f c45 hf
          refine lv_iload_n hx hb dX11_pairs_21 rfl (lv_at hl 2 rfl) ?_
          refine lv_aload_n hx hb dX11_pairs_22 rfl (lv_at hl 0 rfl) ?_
          refine lv_iload_n hx hb dX11_pairs_23 rfl (lv_at hl 3 rfl) ?_
          refine lv_iload hx hb dX11_pairs_24 (lv_at hl 4 rfl) ?_
          replace hf := xsBd_use hf
          obtain ⟨o36, h37, hf⟩ := hf
          refine xs_calli hS (xs_runV (As := [.int y2, .int y20]) C (mX11_sharesOf l  h37) w_1657 w_1659 w_58 w_115 w_1660 hd_X11_sharesOf ⟨rfl, rfl, Nat.le_of_ble_eq_true rfl, Nat.le_of_ble_eq_true rfl, Nat.zero_le _, Nat.zero_le _⟩ hP hD hS lk_X11 rfl hl.1 rfl (Nat.le_of_ble_eq_true rfl) dX11_pairs_26) (fun H locs hP hD hS => ?_)
          refine lv_iload_n hx hb dX11_pairs_29 rfl (lv_at hl 1 rfl) ?_
          have K43 : ∀ (y38 : Int32) (hf : fX11_pairs_J38 y19 y20 o36 y38 = some u27) (H : Heap) (locs : List Loc) (ls : Array Slot), va_P (xsD X) vwCl (wM X mThrown mWorld mImage mDraft mEarlier mRemembered mHasImage mIsLaid o36.2.1 o36.2.2.1 o36.2.2.2.1 o36.2.2.2.2.1 o36.2.2.2.2.2.1 o36.2.2.2.2.2.2 mEventX mEventY mEventD mEvents mCrossingOf mBundle mEventOf mDegree mFrom mTo mCrossings mEdges mMet mUpper mLower mTape mTaped mPoint mEnd mBegin mFaultAt mFive mTold mActs mFar mViews mHullX mHullY mEndX mEndY mHeightUp mHeightLow mMeets mMeetsOf Rw) H → va_D (xsF X) (wM X mThrown mWorld mImage mDraft mEarlier mRemembered mHasImage mIsLaid o36.2.1 o36.2.2.1 o36.2.2.2.1 o36.2.2.2.2.1 o36.2.2.2.2.2.1 o36.2.2.2.2.2.2 mEventX mEventY mEventD mEvents mCrossingOf mBundle mEventOf mDegree mFrom mTo mCrossings mEdges mMet mUpper mLower mTape mTaped mPoint mEnd mBegin mFaultAt mFive mTold mActs mFar mViews mHullX mHullY mEndX mEndY mHeightUp mHeightLow mMeets mMeetsOf Rw) → va_S (xsF X) s.heap H locs → lv_has ls 5 [(0, .ref (xsA X 100)), (1, .int a0), (3, .int y2), (4, .int y20)] → W p l e { frames := 5, cells := 0, slots := 0, locals := 141 } s m ([.ref (xsA X 100), .int a0] : List Value).toArray below meth c H locs 0 0 (MQ below Qq ([.ref (xsA X 100), .int a0] : List Value).toArray s 0 0 (xsF X)) (F0 m 38 ls [.int y38, .int y19]) := by
            intro y38 hf H locs ls hP hD hS hl
            unfold fX11_pairs_J38 at hf
            refine lv_iadd hx hb dX11_pairs_38 ?_
            refine lv_topi (fun x39 ex39 => ?_)
            replace hf := xsLt_use ex39 hf
            refine lv_istore_n (lv' := [(2, .int x39), (0, .ref (xsA X 100)), (1, .int a0), (3, .int y2), (4, .int y20)]) hx hb dX11_pairs_39 rfl hl (by decide) rfl (fun ls hl => ?_)
            obtain ⟨x40, ex40⟩ : ∃ y : Int32, y = y20 + (1 : Int32) := ⟨_, rfl⟩
            replace hf := xsLt_use ex40 hf
            refine lv_iinc (v := x40) (lv' := [(4, .int x40), (2, .int x39), (0, .ref (xsA X 100)), (1, .int a0), (3, .int y2)]) hx hb dX11_pairs_40 hl (k := 4) rfl (by rw [ex40]; rfl) (by decide) rfl (fun ls hl => ?_)
            refine lv_goto (tgt := 15) hx hb dX11_pairs_43 (by decide) ?_
            exact ih27 _ (Option.some.inj hf).symm hk27 H locs ls hP hD hS (lv_sub hl [2, 3, 1, 4, 0] rfl)
          replace hf := xsBd_use hf
          obtain ⟨v41, hf, hk42⟩ := hf
          refine lv_icmp_ne (tgt := 37) hx hb dX11_pairs_30 (by decide) (fun c44 => ?_) (fun c44 => ?_)
          · replace hf := xsBr_f c44 hf
            refine lv_iconst (v := (0 : Int32)) hx hb dX11_pairs_37 (by decide) ?_
            have ev := Option.some.inj hf
            subst ev
            exact K43 (0 : Int32) hk42 H locs ls hP hD hS (lv_sub hl [0, 1, 3, 4] rfl)
          · replace hf := xsBr_t c44 hf
            refine lv_iconst (v := (1 : Int32)) hx hb dX11_pairs_33 (by decide) ?_
            refine lv_goto (tgt := 38) hx hb dX11_pairs_34 (by decide) ?_
            have ev := Option.some.inj hf
            subst ev
            exact K43 (1 : Int32) hk42 H locs ls hP hD hS (lv_sub hl [0, 1, 3, 4] rfl)
      exact L27 (y1, (0 : Int32), y3, y4, y5, y6, y7, y8) r27 hk270 hf H locs ls hP hD hS (lv_sub hl [1, 2, 3, 4, 0] rfl)
  exact L9 ((0 : Int32), (0 : Int32), mOne, mTwo, mShare, mX, mY, mD) r9 hk90 hf H locs ls hP hD hS (lv_sub hl [2, 3, 1, 0] rfl)
set_option maxRecDepth 100000 in
set_option maxHeartbeats 8000000 in
theorem mX11_parts (l : Launch) {X : xsX} {mThrown mRemembered mHasImage mIsLaid mEvents mCrossings mEdges mTaped mPoint mEnd mBegin mFaultAt mActs : Int32} {mWorld mImage mDraft mEarlier mOne mTwo mShare mCrossingOf mBundle mEventOf mDegree mFrom mTo mMet mTape mFive mTold mFar mViews mHullX mHullY mEndX mEndY mMeets mMeetsOf : Nat → Int32} {mX mY mD mHeightUp mHeightLow : Int64} {mEventX mEventY mEventD mUpper mLower : Nat → Int64} {Rw : va_W} {out : Int32 × (Nat → Int32) × (Nat → Int32) × (Nat → Int32) × Int64 × Int64 × Int64} (hf : fX11_parts mWorld mOne mTwo mShare mX mY mD = some out) : Met l yX11_parts (xsWs yX11_parts cX11_parts 3 (some .int)) { frames := 7, cells := 0, slots := 0, locals := 188 } (xsP X (wM X mThrown mWorld mImage mDraft mEarlier mRemembered mHasImage mIsLaid mOne mTwo mShare mX mY mD mEventX mEventY mEventD mEvents mCrossingOf mBundle mEventOf mDegree mFrom mTo mCrossings mEdges mMet mUpper mLower mTape mTaped mPoint mEnd mBegin mFaultAt mFive mTold mActs mFar mViews mHullX mHullY mEndX mEndY mHeightUp mHeightLow mMeets mMeetsOf Rw) [.ref (xsA X 100)]) (xsQi X out.1 (wM X mThrown mWorld mImage mDraft mEarlier mRemembered mHasImage mIsLaid out.2.1 out.2.2.1 out.2.2.2.1 out.2.2.2.2.1 out.2.2.2.2.2.1 out.2.2.2.2.2.2 mEventX mEventY mEventD mEvents mCrossingOf mBundle mEventOf mDegree mFrom mTo mCrossings mEdges mMet mUpper mLower mTape mTaped mPoint mEnd mBegin mFaultAt mFive mTold mActs mFar mViews mHullX mHullY mEndX mEndY mHeightUp mHeightLow mMeets mMeetsOf Rw)) 0 0 (xsF X) := by
  refine xs_meth RX11 (by decide) rfl (Nat.le_of_ble_eq_true rfl) ?_
  intro p e s m below meth c ls H locs C hP hD hS hr hlk hl
  have hx := C.1
  have hb := C.2.1
  have hl : lv_has ls 3 [(0, .ref (xsA X 100))] := hl
  obtain ⟨Qq, hQq⟩ : ∃ Qq, Qq = xsQi X out.1 (wM X mThrown mWorld mImage mDraft mEarlier mRemembered mHasImage mIsLaid out.2.1 out.2.2.1 out.2.2.2.1 out.2.2.2.2.1 out.2.2.2.2.2.1 out.2.2.2.2.2.2 mEventX mEventY mEventD mEvents mCrossingOf mBundle mEventOf mDegree mFrom mTo mCrossings mEdges mMet mUpper mLower mTape mTaped mPoint mEnd mBegin mFaultAt mFive mTold mActs mFar mViews mHullX mHullY mEndX mEndY mHeightUp mHeightLow mMeets mMeetsOf Rw) := ⟨_, rfl⟩
  rw [← hQq]
  unfold fX11_parts at hf
  refine lv_iconst (v := (0 : Int32)) hx hb dX11_parts_0 (by decide) ?_
  refine lv_istore_n (lv' := [(1, .int (0 : Int32)), (0, .ref (xsA X 100))]) hx hb dX11_parts_1 rfl hl (by decide) rfl (fun ls hl => ?_)
  refine lv_iconst (v := (0 : Int32)) hx hb dX11_parts_2 (by decide) ?_
  refine lv_istore_n (lv' := [(2, .int (0 : Int32)), (1, .int (0 : Int32)), (0, .ref (xsA X 100))]) hx hb dX11_parts_3 rfl hl (by decide) rfl (fun ls hl => ?_)
  have K9 : ∀ (y10 : Int32) (y11 : Nat → Int32) (y12 : Nat → Int32) (y13 : Nat → Int32) (y14 : Int64) (y15 : Int64) (y16 : Int64) (hf : fX11_parts_J40 y10 y11 y12 y13 y14 y15 y16 = some out) (H : Heap) (locs : List Loc) (ls : Array Slot), va_P (xsD X) vwCl (wM X mThrown mWorld mImage mDraft mEarlier mRemembered mHasImage mIsLaid y11 y12 y13 y14 y15 y16 mEventX mEventY mEventD mEvents mCrossingOf mBundle mEventOf mDegree mFrom mTo mCrossings mEdges mMet mUpper mLower mTape mTaped mPoint mEnd mBegin mFaultAt mFive mTold mActs mFar mViews mHullX mHullY mEndX mEndY mHeightUp mHeightLow mMeets mMeetsOf Rw) H → va_D (xsF X) (wM X mThrown mWorld mImage mDraft mEarlier mRemembered mHasImage mIsLaid y11 y12 y13 y14 y15 y16 mEventX mEventY mEventD mEvents mCrossingOf mBundle mEventOf mDegree mFrom mTo mCrossings mEdges mMet mUpper mLower mTape mTaped mPoint mEnd mBegin mFaultAt mFive mTold mActs mFar mViews mHullX mHullY mEndX mEndY mHeightUp mHeightLow mMeets mMeetsOf Rw) → va_S (xsF X) s.heap H locs → lv_has ls 3 [(1, .int y10)] → W p l e { frames := 7, cells := 0, slots := 0, locals := 188 } s m ([.ref (xsA X 100)] : List Value).toArray below meth c H locs 0 0 (MQ below Qq ([.ref (xsA X 100)] : List Value).toArray s 0 0 (xsF X)) (F0 m 40 ls []) := by
    intro y10 y11 y12 y13 y14 y15 y16 hf H locs ls hP hD hS hl
    unfold fX11_parts_J40 at hf
    refine lv_iload_n hx hb dX11_parts_40 rfl (lv_at hl 0 rfl) ?_
    have ho := Option.some.inj hf
    subst ho
    rw [hQq]
    exact xs_iret C hr hlk hP hD hS dX11_parts_41
  replace hf := xsBd_use hf
  obtain ⟨r9, hk90, hf⟩ := hf
  have L9 : ∀ (sg : Int32 × Int32 × (Nat → Int32) × (Nat → Int32) × (Nat → Int32) × Int64 × Int64 × Int64) (rg : Int32 × (Nat → Int32) × (Nat → Int32) × (Nat → Int32) × Int64 × Int64 × Int64), xsWh (fun s9 => fX11_parts_L4 mWorld s9.1 s9.2.1 s9.2.2.1 s9.2.2.2.1 s9.2.2.2.2.1 s9.2.2.2.2.2.1 s9.2.2.2.2.2.2.1 s9.2.2.2.2.2.2.2) sg = some rg → (fX11_parts_J40 rg.1 rg.2.1 rg.2.2.1 rg.2.2.2.1 rg.2.2.2.2.1 rg.2.2.2.2.2.1 rg.2.2.2.2.2.2 = some out → ∀ (H : Heap) (locs : List Loc) (ls : Array Slot), va_P (xsD X) vwCl (wM X mThrown mWorld mImage mDraft mEarlier mRemembered mHasImage mIsLaid sg.2.2.1 sg.2.2.2.1 sg.2.2.2.2.1 sg.2.2.2.2.2.1 sg.2.2.2.2.2.2.1 sg.2.2.2.2.2.2.2 mEventX mEventY mEventD mEvents mCrossingOf mBundle mEventOf mDegree mFrom mTo mCrossings mEdges mMet mUpper mLower mTape mTaped mPoint mEnd mBegin mFaultAt mFive mTold mActs mFar mViews mHullX mHullY mEndX mEndY mHeightUp mHeightLow mMeets mMeetsOf Rw) H → va_D (xsF X) (wM X mThrown mWorld mImage mDraft mEarlier mRemembered mHasImage mIsLaid sg.2.2.1 sg.2.2.2.1 sg.2.2.2.2.1 sg.2.2.2.2.2.1 sg.2.2.2.2.2.2.1 sg.2.2.2.2.2.2.2 mEventX mEventY mEventD mEvents mCrossingOf mBundle mEventOf mDegree mFrom mTo mCrossings mEdges mMet mUpper mLower mTape mTaped mPoint mEnd mBegin mFaultAt mFive mTold mActs mFar mViews mHullX mHullY mEndX mEndY mHeightUp mHeightLow mMeets mMeetsOf Rw) → va_S (xsF X) s.heap H locs → lv_has ls 3 [(0, .ref (xsA X 100)), (1, .int sg.1), (2, .int sg.2.1)] → W p l e { frames := 7, cells := 0, slots := 0, locals := 188 } s m ([.ref (xsA X 100)] : List Value).toArray below meth c H locs 0 0 (MQ below Qq ([.ref (xsA X 100)] : List Value).toArray s 0 0 (xsF X)) (F0 m 4 ls [])) := by
    refine xsWh_ind ?_
    intro sg r9 u9 hf ih9 hx9 hk9 H locs ls hP hD hS hl
    obtain ⟨y1, y2, y3, y4, y5, y6, y7, y8⟩ := sg
    replace hf : fX11_parts_L4 mWorld y1 y2 y3 y4 y5 y6 y7 y8 = some u9 := hf
    replace hl : lv_has ls 3 [(0, .ref (xsA X 100)), (1, .int y1), (2, .int y2)] := hl
    replace hP : va_P (xsD X) vwCl (wM X mThrown mWorld mImage mDraft mEarlier mRemembered mHasImage mIsLaid y3 y4 y5 y6 y7 y8 mEventX mEventY mEventD mEvents mCrossingOf mBundle mEventOf mDegree mFrom mTo mCrossings mEdges mMet mUpper mLower mTape mTaped mPoint mEnd mBegin mFaultAt mFive mTold mActs mFar mViews mHullX mHullY mEndX mEndY mHeightUp mHeightLow mMeets mMeetsOf Rw) H := hP
    replace hD : va_D (xsF X) (wM X mThrown mWorld mImage mDraft mEarlier mRemembered mHasImage mIsLaid y3 y4 y5 y6 y7 y8 mEventX mEventY mEventD mEvents mCrossingOf mBundle mEventOf mDegree mFrom mTo mCrossings mEdges mMet mUpper mLower mTape mTaped mPoint mEnd mBegin mFaultAt mFive mTold mActs mFar mViews mHullX mHullY mEndX mEndY mHeightUp mHeightLow mMeets mMeetsOf Rw) := hD
    unfold fX11_parts_L4 at hf
    refine lv_iload_n hx hb dX11_parts_4 rfl (lv_at hl 2 rfl) ?_
    refine lv_aload_n hx hb dX11_parts_5 rfl (lv_at hl 0 rfl) ?_
    replace hf := xsBd_use hf
    obtain ⟨o17, h18, hf⟩ := hf
    refine xs_calli hS (xs_runV (As := []) C (mX11_many l  h18) w_1581 w_1583 w_44 w_115 w_1584 hd_X11_many ⟨rfl, rfl, Nat.le_of_ble_eq_true rfl, Nat.le_of_ble_eq_true rfl, Nat.zero_le _, Nat.zero_le _⟩ hP hD hS lk_X11 rfl hl.1 rfl (Nat.le_of_ble_eq_true rfl) dX11_parts_6) (fun H locs hP hD hS => ?_)
    refine lv_icmp_ge (tgt := 40) hx hb dX11_parts_9 (by decide) (fun c28 => ?_) (fun c28 => ?_)
    · replace hf := xsBr_t c28 hf
      have ez := hx9 _ (Option.some.inj hf).symm
      subst ez
      exact K9 y1 y3 y4 y5 y6 y7 y8 hk9 H locs ls hP hD hS (lv_sub hl [1] rfl)
    · replace hf := xsBr_f c28 hf
      refine lv_iload_n hx hb dX11_parts_12 rfl (lv_at hl 1 rfl) ?_
      refine lv_aload_n hx hb dX11_parts_13 rfl (lv_at hl 0 rfl) ?_
      refine lv_iload_n hx hb dX11_parts_14 rfl (lv_at hl 2 rfl) ?_
      replace hf := xsBd_use hf
      obtain ⟨o19, h20, hf⟩ := hf
      refine xs_calli hS (xs_runV (As := [.int y2]) C (mX11_partOf l  h20) w_1736 w_1738 w_69 w_115 w_1739 hd_X11_partOf ⟨rfl, rfl, Nat.le_of_ble_eq_true rfl, Nat.le_of_ble_eq_true rfl, Nat.zero_le _, Nat.zero_le _⟩ hP hD hS lk_X11 rfl hl.1 rfl (Nat.le_of_ble_eq_true rfl) dX11_parts_15) (fun H locs hP hD hS => ?_)
      refine lv_iconst (v := (1 : Int32)) hx hb dX11_parts_18 (by decide) ?_
      refine lv_iload_n hx hb dX11_parts_19 rfl (lv_at hl 2 rfl) ?_
      refine lv_ishl hx hb dX11_parts_20 ?_
      refine lv_iconst (v := (1 : Int32)) hx hb dX11_parts_21 (by decide) ?_
      refine lv_isub hx hb dX11_parts_22 ?_
      refine lv_iand hx hb dX11_parts_23 ?_
      have K26 : ∀ (y21 : Int32) (hf : fX11_parts_J32 y1 y2 o19 y21 = some u9) (H : Heap) (locs : List Loc) (ls : Array Slot), va_P (xsD X) vwCl (wM X mThrown mWorld mImage mDraft mEarlier mRemembered mHasImage mIsLaid o19.2.1 o19.2.2.1 o19.2.2.2.1 o19.2.2.2.2.1 o19.2.2.2.2.2.1 o19.2.2.2.2.2.2 mEventX mEventY mEventD mEvents mCrossingOf mBundle mEventOf mDegree mFrom mTo mCrossings mEdges mMet mUpper mLower mTape mTaped mPoint mEnd mBegin mFaultAt mFive mTold mActs mFar mViews mHullX mHullY mEndX mEndY mHeightUp mHeightLow mMeets mMeetsOf Rw) H → va_D (xsF X) (wM X mThrown mWorld mImage mDraft mEarlier mRemembered mHasImage mIsLaid o19.2.1 o19.2.2.1 o19.2.2.2.1 o19.2.2.2.2.1 o19.2.2.2.2.2.1 o19.2.2.2.2.2.2 mEventX mEventY mEventD mEvents mCrossingOf mBundle mEventOf mDegree mFrom mTo mCrossings mEdges mMet mUpper mLower mTape mTaped mPoint mEnd mBegin mFaultAt mFive mTold mActs mFar mViews mHullX mHullY mEndX mEndY mHeightUp mHeightLow mMeets mMeetsOf Rw) → va_S (xsF X) s.heap H locs → lv_has ls 3 [(0, .ref (xsA X 100)), (2, .int y2)] → W p l e { frames := 7, cells := 0, slots := 0, locals := 188 } s m ([.ref (xsA X 100)] : List Value).toArray below meth c H locs 0 0 (MQ below Qq ([.ref (xsA X 100)] : List Value).toArray s 0 0 (xsF X)) (F0 m 32 ls [.int y21, .int y1]) := by
        intro y21 hf H locs ls hP hD hS hl
        unfold fX11_parts_J32 at hf
        refine lv_iadd hx hb dX11_parts_32 ?_
        refine lv_topi (fun x22 ex22 => ?_)
        replace hf := xsLt_use ex22 hf
        refine lv_istore_n (lv' := [(1, .int x22), (0, .ref (xsA X 100)), (2, .int y2)]) hx hb dX11_parts_33 rfl hl (by decide) rfl (fun ls hl => ?_)
        obtain ⟨x23, ex23⟩ : ∃ y : Int32, y = y2 + (1 : Int32) := ⟨_, rfl⟩
        replace hf := xsLt_use ex23 hf
        refine lv_iinc (v := x23) (lv' := [(2, .int x23), (1, .int x22), (0, .ref (xsA X 100))]) hx hb dX11_parts_34 hl (k := 2) rfl (by rw [ex23]; rfl) (by decide) rfl (fun ls hl => ?_)
        refine lv_goto (tgt := 4) hx hb dX11_parts_37 (by decide) ?_
        exact ih9 _ (Option.some.inj hf).symm hk9 H locs ls hP hD hS (lv_sub hl [2, 1, 0] rfl)
      replace hf := xsBd_use hf
      obtain ⟨v24, hf, hk25⟩ := hf
      refine lv_if_ne (tgt := 31) hx hb dX11_parts_24 (by decide) (fun c27 => ?_) (fun c27 => ?_)
      · replace hf := xsBr_f c27 hf
        refine lv_iconst (v := (0 : Int32)) hx hb dX11_parts_31 (by decide) ?_
        have ev := Option.some.inj hf
        subst ev
        exact K26 (0 : Int32) hk25 H locs ls hP hD hS (lv_sub hl [0, 2] rfl)
      · replace hf := xsBr_t c27 hf
        refine lv_iconst (v := (1 : Int32)) hx hb dX11_parts_27 (by decide) ?_
        refine lv_goto (tgt := 32) hx hb dX11_parts_28 (by decide) ?_
        have ev := Option.some.inj hf
        subst ev
        exact K26 (1 : Int32) hk25 H locs ls hP hD hS (lv_sub hl [0, 2] rfl)
  exact L9 ((0 : Int32), (0 : Int32), mOne, mTwo, mShare, mX, mY, mD) r9 hk90 hf H locs ls hP hD hS (lv_sub hl [2, 1, 0] rfl)
set_option maxRecDepth 100000 in
set_option maxHeartbeats 8000000 in
theorem mX11_blame (l : Launch) {X : xsX} {mThrown mRemembered mHasImage mIsLaid mEvents mCrossings mEdges mTaped mPoint mEnd mBegin mFaultAt mActs : Int32} {mWorld mImage mDraft mEarlier mOne mTwo mShare mCrossingOf mBundle mEventOf mDegree mFrom mTo mMet mTape mFive mTold mFar mViews mHullX mHullY mEndX mEndY mMeets mMeetsOf : Nat → Int32} {mX mY mD mHeightUp mHeightLow : Int64} {mEventX mEventY mEventD mUpper mLower : Nat → Int64} {Rw : va_W} {out : Int32 × (Nat → Int32) × (Nat → Int32) × (Nat → Int32) × Int64 × Int64 × Int64 × (Nat → Int64) × (Nat → Int64) × (Nat → Int64) × Int32 × (Nat → Int32) × (Nat → Int32) × (Nat → Int32)} (hf : fX11_blame mWorld mOne mTwo mShare mX mY mD mEventX mEventY mEventD mEvents mCrossingOf mCrossings mMeets mMeetsOf = some out) : Met l yX11_blame (xsWs yX11_blame cX11_blame 6 (some .int)) { frames := 5, cells := 0, slots := 0, locals := 141 } (xsP X (wM X mThrown mWorld mImage mDraft mEarlier mRemembered mHasImage mIsLaid mOne mTwo mShare mX mY mD mEventX mEventY mEventD mEvents mCrossingOf mBundle mEventOf mDegree mFrom mTo mCrossings mEdges mMet mUpper mLower mTape mTaped mPoint mEnd mBegin mFaultAt mFive mTold mActs mFar mViews mHullX mHullY mEndX mEndY mHeightUp mHeightLow mMeets mMeetsOf Rw) [.ref (xsA X 100)]) (xsQi X out.1 (wM X mThrown mWorld mImage mDraft mEarlier mRemembered mHasImage mIsLaid out.2.1 out.2.2.1 out.2.2.2.1 out.2.2.2.2.1 out.2.2.2.2.2.1 out.2.2.2.2.2.2.1 out.2.2.2.2.2.2.2.1 out.2.2.2.2.2.2.2.2.1 out.2.2.2.2.2.2.2.2.2.1 out.2.2.2.2.2.2.2.2.2.2.1 out.2.2.2.2.2.2.2.2.2.2.2.1 mBundle mEventOf mDegree mFrom mTo mCrossings mEdges mMet mUpper mLower mTape mTaped mPoint mEnd mBegin mFaultAt mFive mTold mActs mFar mViews mHullX mHullY mEndX mEndY mHeightUp mHeightLow out.2.2.2.2.2.2.2.2.2.2.2.2.1 out.2.2.2.2.2.2.2.2.2.2.2.2.2 Rw)) 0 0 (xsF X) := by
  refine xs_meth RX11 (by decide) rfl (Nat.le_of_ble_eq_true rfl) ?_
  intro p e s m below meth c ls H locs C hP hD hS hr hlk hl
  have hx := C.1
  have hb := C.2.1
  have hl : lv_has ls 6 [(0, .ref (xsA X 100))] := hl
  obtain ⟨Qq, hQq⟩ : ∃ Qq, Qq = xsQi X out.1 (wM X mThrown mWorld mImage mDraft mEarlier mRemembered mHasImage mIsLaid out.2.1 out.2.2.1 out.2.2.2.1 out.2.2.2.2.1 out.2.2.2.2.2.1 out.2.2.2.2.2.2.1 out.2.2.2.2.2.2.2.1 out.2.2.2.2.2.2.2.2.1 out.2.2.2.2.2.2.2.2.2.1 out.2.2.2.2.2.2.2.2.2.2.1 out.2.2.2.2.2.2.2.2.2.2.2.1 mBundle mEventOf mDegree mFrom mTo mCrossings mEdges mMet mUpper mLower mTape mTaped mPoint mEnd mBegin mFaultAt mFive mTold mActs mFar mViews mHullX mHullY mEndX mEndY mHeightUp mHeightLow out.2.2.2.2.2.2.2.2.2.2.2.2.1 out.2.2.2.2.2.2.2.2.2.2.2.2.2 Rw) := ⟨_, rfl⟩
  rw [← hQq]
  unfold fX11_blame at hf
  refine lv_iconst (v := (0 : Int32)) hx hb dX11_blame_0 (by decide) ?_
  refine lv_istore_n (lv' := [(1, .int (0 : Int32)), (0, .ref (xsA X 100))]) hx hb dX11_blame_1 rfl hl (by decide) rfl (fun ls hl => ?_)
  have K4 : ∀ (y5 : Nat → Int32) (y6 : Nat → Int32) (hf : fX11_blame_J49 mWorld mOne mTwo mShare mX mY mD mEventX mEventY mEventD mEvents mCrossingOf mCrossings y5 y6 = some out) (H : Heap) (locs : List Loc) (ls : Array Slot), va_P (xsD X) vwCl (wM X mThrown mWorld mImage mDraft mEarlier mRemembered mHasImage mIsLaid mOne mTwo mShare mX mY mD mEventX mEventY mEventD mEvents mCrossingOf mBundle mEventOf mDegree mFrom mTo mCrossings mEdges mMet mUpper mLower mTape mTaped mPoint mEnd mBegin mFaultAt mFive mTold mActs mFar mViews mHullX mHullY mEndX mEndY mHeightUp mHeightLow y5 y6 Rw) H → va_D (xsF X) (wM X mThrown mWorld mImage mDraft mEarlier mRemembered mHasImage mIsLaid mOne mTwo mShare mX mY mD mEventX mEventY mEventD mEvents mCrossingOf mBundle mEventOf mDegree mFrom mTo mCrossings mEdges mMet mUpper mLower mTape mTaped mPoint mEnd mBegin mFaultAt mFive mTold mActs mFar mViews mHullX mHullY mEndX mEndY mHeightUp mHeightLow y5 y6 Rw) → va_S (xsF X) s.heap H locs → lv_has ls 6 [(0, .ref (xsA X 100))] → W p l e { frames := 5, cells := 0, slots := 0, locals := 141 } s m ([.ref (xsA X 100)] : List Value).toArray below meth c H locs 0 0 (MQ below Qq ([.ref (xsA X 100)] : List Value).toArray s 0 0 (xsF X)) (F0 m 49 ls []) := by
    intro y5 y6 hf H locs ls hP hD hS hl
    unfold fX11_blame_J49 at hf
    refine lv_iconst (v := (0 : Int32)) hx hb dX11_blame_49 (by decide) ?_
    refine lv_istore_n (lv' := [(1, .int (0 : Int32)), (0, .ref (xsA X 100))]) hx hb dX11_blame_50 rfl hl (by decide) rfl (fun ls hl => ?_)
    have K21 : ∀ (y22 : Nat → Int32) (y23 : Nat → Int32) (y24 : Nat → Int32) (y25 : Int64) (y26 : Int64) (y27 : Int64) (y28 : Nat → Int64) (y29 : Nat → Int64) (y30 : Nat → Int64) (y31 : Int32) (y32 : Nat → Int32) (y33 : Nat → Int32) (y34 : Nat → Int32) (hf : fX11_blame_J153 mWorld mCrossings y22 y23 y24 y25 y26 y27 y28 y29 y30 y31 y32 y33 y34 = some out) (H : Heap) (locs : List Loc) (ls : Array Slot), va_P (xsD X) vwCl (wM X mThrown mWorld mImage mDraft mEarlier mRemembered mHasImage mIsLaid y22 y23 y24 y25 y26 y27 y28 y29 y30 y31 y32 mBundle mEventOf mDegree mFrom mTo mCrossings mEdges mMet mUpper mLower mTape mTaped mPoint mEnd mBegin mFaultAt mFive mTold mActs mFar mViews mHullX mHullY mEndX mEndY mHeightUp mHeightLow y33 y34 Rw) H → va_D (xsF X) (wM X mThrown mWorld mImage mDraft mEarlier mRemembered mHasImage mIsLaid y22 y23 y24 y25 y26 y27 y28 y29 y30 y31 y32 mBundle mEventOf mDegree mFrom mTo mCrossings mEdges mMet mUpper mLower mTape mTaped mPoint mEnd mBegin mFaultAt mFive mTold mActs mFar mViews mHullX mHullY mEndX mEndY mHeightUp mHeightLow y33 y34 Rw) → va_S (xsF X) s.heap H locs → lv_has ls 6 [(0, .ref (xsA X 100))] → W p l e { frames := 5, cells := 0, slots := 0, locals := 141 } s m ([.ref (xsA X 100)] : List Value).toArray below meth c H locs 0 0 (MQ below Qq ([.ref (xsA X 100)] : List Value).toArray s 0 0 (xsF X)) (F0 m 153 ls []) := by
      intro y22 y23 y24 y25 y26 y27 y28 y29 y30 y31 y32 y33 y34 hf H locs ls hP hD hS hl
      unfold fX11_blame_J153 at hf
      refine lv_iconst (v := (-1 : Int32)) hx hb dX11_blame_153 (by decide) ?_
      refine lv_istore_n (lv' := [(1, .int (-1 : Int32)), (0, .ref (xsA X 100))]) hx hb dX11_blame_154 rfl hl (by decide) rfl (fun ls hl => ?_)
      refine lv_iconst (v := (0 : Int32)) hx hb dX11_blame_155 (by decide) ?_
      refine lv_istore_n (lv' := [(2, .int (0 : Int32)), (1, .int (-1 : Int32)), (0, .ref (xsA X 100))]) hx hb dX11_blame_156 rfl hl (by decide) rfl (fun ls hl => ?_)
      refine lv_iconst (v := (0 : Int32)) hx hb dX11_blame_157 (by decide) ?_
      refine lv_istore_n (lv' := [(3, .int (0 : Int32)), (2, .int (0 : Int32)), (1, .int (-1 : Int32)), (0, .ref (xsA X 100))]) hx hb dX11_blame_158 rfl hl (by decide) rfl (fun ls hl => ?_)
      have K38 : ∀ (y39 : Int32) (hf : fX11_blame_J245 y22 y23 y24 y25 y26 y27 y28 y29 y30 y31 y32 y33 y34 y39 = some out) (H : Heap) (locs : List Loc) (ls : Array Slot), va_P (xsD X) vwCl (wM X mThrown mWorld mImage mDraft mEarlier mRemembered mHasImage mIsLaid y22 y23 y24 y25 y26 y27 y28 y29 y30 y31 y32 mBundle mEventOf mDegree mFrom mTo mCrossings mEdges mMet mUpper mLower mTape mTaped mPoint mEnd mBegin mFaultAt mFive mTold mActs mFar mViews mHullX mHullY mEndX mEndY mHeightUp mHeightLow y33 y34 Rw) H → va_D (xsF X) (wM X mThrown mWorld mImage mDraft mEarlier mRemembered mHasImage mIsLaid y22 y23 y24 y25 y26 y27 y28 y29 y30 y31 y32 mBundle mEventOf mDegree mFrom mTo mCrossings mEdges mMet mUpper mLower mTape mTaped mPoint mEnd mBegin mFaultAt mFive mTold mActs mFar mViews mHullX mHullY mEndX mEndY mHeightUp mHeightLow y33 y34 Rw) → va_S (xsF X) s.heap H locs → lv_has ls 6 [(1, .int y39)] → W p l e { frames := 5, cells := 0, slots := 0, locals := 141 } s m ([.ref (xsA X 100)] : List Value).toArray below meth c H locs 0 0 (MQ below Qq ([.ref (xsA X 100)] : List Value).toArray s 0 0 (xsF X)) (F0 m 245 ls []) := by
        intro y39 hf H locs ls hP hD hS hl
        unfold fX11_blame_J245 at hf
        refine lv_iload_n hx hb dX11_blame_245 rfl (lv_at hl 0 rfl) ?_
        have ho := Option.some.inj hf
        subst ho
        rw [hQq]
        exact xs_iret C hr hlk hP hD hS dX11_blame_246
      replace hf := xsBd_use hf
      obtain ⟨r38, hk380, hf⟩ := hf
      have L38 : ∀ (sg : Int32 × Int32 × Int32) (rg : Int32), xsWh (fun s38 => fX11_blame_L159 mWorld mCrossings y33 y34 s38.1 s38.2.1 s38.2.2) sg = some rg → (fX11_blame_J245 y22 y23 y24 y25 y26 y27 y28 y29 y30 y31 y32 y33 y34 rg = some out → ∀ (H : Heap) (locs : List Loc) (ls : Array Slot), va_P (xsD X) vwCl (wM X mThrown mWorld mImage mDraft mEarlier mRemembered mHasImage mIsLaid y22 y23 y24 y25 y26 y27 y28 y29 y30 y31 y32 mBundle mEventOf mDegree mFrom mTo mCrossings mEdges mMet mUpper mLower mTape mTaped mPoint mEnd mBegin mFaultAt mFive mTold mActs mFar mViews mHullX mHullY mEndX mEndY mHeightUp mHeightLow y33 y34 Rw) H → va_D (xsF X) (wM X mThrown mWorld mImage mDraft mEarlier mRemembered mHasImage mIsLaid y22 y23 y24 y25 y26 y27 y28 y29 y30 y31 y32 mBundle mEventOf mDegree mFrom mTo mCrossings mEdges mMet mUpper mLower mTape mTaped mPoint mEnd mBegin mFaultAt mFive mTold mActs mFar mViews mHullX mHullY mEndX mEndY mHeightUp mHeightLow y33 y34 Rw) → va_S (xsF X) s.heap H locs → lv_has ls 6 [(0, .ref (xsA X 100)), (1, .int sg.1), (2, .int sg.2.1), (3, .int sg.2.2)] → W p l e { frames := 5, cells := 0, slots := 0, locals := 141 } s m ([.ref (xsA X 100)] : List Value).toArray below meth c H locs 0 0 (MQ below Qq ([.ref (xsA X 100)] : List Value).toArray s 0 0 (xsF X)) (F0 m 159 ls [])) := by
        refine xsWh_ind ?_
        intro sg r38 u38 hf ih38 hx38 hk38 H locs ls hP hD hS hl
        obtain ⟨y35, y36, y37⟩ := sg
        replace hf : fX11_blame_L159 mWorld mCrossings y33 y34 y35 y36 y37 = some u38 := hf
        replace hl : lv_has ls 6 [(0, .ref (xsA X 100)), (1, .int y35), (2, .int y36), (3, .int y37)] := hl
        replace hP : va_P (xsD X) vwCl (wM X mThrown mWorld mImage mDraft mEarlier mRemembered mHasImage mIsLaid y22 y23 y24 y25 y26 y27 y28 y29 y30 y31 y32 mBundle mEventOf mDegree mFrom mTo mCrossings mEdges mMet mUpper mLower mTape mTaped mPoint mEnd mBegin mFaultAt mFive mTold mActs mFar mViews mHullX mHullY mEndX mEndY mHeightUp mHeightLow y33 y34 Rw) H := hP
        replace hD : va_D (xsF X) (wM X mThrown mWorld mImage mDraft mEarlier mRemembered mHasImage mIsLaid y22 y23 y24 y25 y26 y27 y28 y29 y30 y31 y32 mBundle mEventOf mDegree mFrom mTo mCrossings mEdges mMet mUpper mLower mTape mTaped mPoint mEnd mBegin mFaultAt mFive mTold mActs mFar mViews mHullX mHullY mEndX mEndY mHeightUp mHeightLow y33 y34 Rw) := hD
        unfold fX11_blame_L159 at hf
        refine lv_iload_n hx hb dX11_blame_159 rfl (lv_at hl 3 rfl) ?_
        refine lv_aload_n hx hb dX11_blame_160 rfl (lv_at hl 0 rfl) ?_
        replace hf := xsBd_use hf
        obtain ⟨o40, h41, hf⟩ := hf
        refine xs_calli hS (xs_runV (As := []) C (mX11_many l  h41) w_1581 w_1583 w_44 w_115 w_1584 hd_X11_many ⟨rfl, rfl, Nat.le_of_ble_eq_true rfl, Nat.le_of_ble_eq_true rfl, Nat.zero_le _, Nat.zero_le _⟩ hP hD hS lk_X11 rfl hl.1 rfl (Nat.le_of_ble_eq_true rfl) dX11_blame_161) (fun H locs hP hD hS => ?_)
        refine lv_icmp_ge (tgt := 245) hx hb dX11_blame_164 (by decide) (fun c64 => ?_) (fun c64 => ?_)
        · replace hf := xsBr_t c64 hf
          have ez := hx38 _ (Option.some.inj hf).symm
          subst ez
          exact K38 y35 hk38 H locs ls hP hD hS (lv_sub hl [1] rfl)
        · replace hf := xsBr_f c64 hf
          refine lv_iconst (v := (0 : Int32)) hx hb dX11_blame_167 (by decide) ?_
          refine lv_istore (lv' := [(4, .int (0 : Int32)), (0, .ref (xsA X 100)), (1, .int y35), (2, .int y36), (3, .int y37)]) hx hb dX11_blame_168 hl (by decide) rfl (fun ls hl => ?_)
          refine lv_iconst (v := (0 : Int32)) hx hb dX11_blame_170 (by decide) ?_
          refine lv_istore (lv' := [(5, .int (0 : Int32)), (4, .int (0 : Int32)), (0, .ref (xsA X 100)), (1, .int y35), (2, .int y36), (3, .int y37)]) hx hb dX11_blame_171 hl (by decide) rfl (fun ls hl => ?_)
          have K44 : ∀ (y45 : Int32) (hf : fX11_blame_J220 y35 y36 y37 y45 = some u38) (H : Heap) (locs : List Loc) (ls : Array Slot), va_P (xsD X) vwCl (wM X mThrown mWorld mImage mDraft mEarlier mRemembered mHasImage mIsLaid y22 y23 y24 y25 y26 y27 y28 y29 y30 y31 y32 mBundle mEventOf mDegree mFrom mTo mCrossings mEdges mMet mUpper mLower mTape mTaped mPoint mEnd mBegin mFaultAt mFive mTold mActs mFar mViews mHullX mHullY mEndX mEndY mHeightUp mHeightLow y33 y34 Rw) H → va_D (xsF X) (wM X mThrown mWorld mImage mDraft mEarlier mRemembered mHasImage mIsLaid y22 y23 y24 y25 y26 y27 y28 y29 y30 y31 y32 mBundle mEventOf mDegree mFrom mTo mCrossings mEdges mMet mUpper mLower mTape mTaped mPoint mEnd mBegin mFaultAt mFive mTold mActs mFar mViews mHullX mHullY mEndX mEndY mHeightUp mHeightLow y33 y34 Rw) → va_S (xsF X) s.heap H locs → lv_has ls 6 [(0, .ref (xsA X 100)), (1, .int y35), (2, .int y36), (3, .int y37), (4, .int y45)] → W p l e { frames := 5, cells := 0, slots := 0, locals := 141 } s m ([.ref (xsA X 100)] : List Value).toArray below meth c H locs 0 0 (MQ below Qq ([.ref (xsA X 100)] : List Value).toArray s 0 0 (xsF X)) (F0 m 220 ls []) := by
            intro y45 hf H locs ls hP hD hS hl
            unfold fX11_blame_J220 at hf
            refine lv_iload_n hx hb dX11_blame_220 rfl (lv_at hl 1 rfl) ?_
            refine lv_iconst (v := (-1 : Int32)) hx hb dX11_blame_221 (by decide) ?_
            have K51 : ∀ (y46 : Int32) (y47 : Int32) (hf : fX11_blame_J239 y37 y46 y47 = some u38) (H : Heap) (locs : List Loc) (ls : Array Slot), va_P (xsD X) vwCl (wM X mThrown mWorld mImage mDraft mEarlier mRemembered mHasImage mIsLaid y22 y23 y24 y25 y26 y27 y28 y29 y30 y31 y32 mBundle mEventOf mDegree mFrom mTo mCrossings mEdges mMet mUpper mLower mTape mTaped mPoint mEnd mBegin mFaultAt mFive mTold mActs mFar mViews mHullX mHullY mEndX mEndY mHeightUp mHeightLow y33 y34 Rw) H → va_D (xsF X) (wM X mThrown mWorld mImage mDraft mEarlier mRemembered mHasImage mIsLaid y22 y23 y24 y25 y26 y27 y28 y29 y30 y31 y32 mBundle mEventOf mDegree mFrom mTo mCrossings mEdges mMet mUpper mLower mTape mTaped mPoint mEnd mBegin mFaultAt mFive mTold mActs mFar mViews mHullX mHullY mEndX mEndY mHeightUp mHeightLow y33 y34 Rw) → va_S (xsF X) s.heap H locs → lv_has ls 6 [(0, .ref (xsA X 100)), (1, .int y46), (2, .int y47), (3, .int y37)] → W p l e { frames := 5, cells := 0, slots := 0, locals := 141 } s m ([.ref (xsA X 100)] : List Value).toArray below meth c H locs 0 0 (MQ below Qq ([.ref (xsA X 100)] : List Value).toArray s 0 0 (xsF X)) (F0 m 239 ls []) := by
              intro y46 y47 hf H locs ls hP hD hS hl
              unfold fX11_blame_J239 at hf
              obtain ⟨x48, ex48⟩ : ∃ y : Int32, y = y37 + (1 : Int32) := ⟨_, rfl⟩
              replace hf := xsLt_use ex48 hf
              refine lv_iinc (v := x48) (lv' := [(3, .int x48), (0, .ref (xsA X 100)), (1, .int y46), (2, .int y47)]) hx hb dX11_blame_239 hl (k := 3) rfl (by rw [ex48]; rfl) (by decide) rfl (fun ls hl => ?_)
              refine lv_goto (tgt := 159) hx hb dX11_blame_242 (by decide) ?_
              exact ih38 _ (Option.some.inj hf).symm hk38 H locs ls hP hD hS (lv_sub hl [1, 2, 3, 0] rfl)
            replace hf := xsBd_use hf
            obtain ⟨v49, hf, hk50⟩ := hf
            refine lv_icmp_eq (tgt := 234) hx hb dX11_blame_222 (by decide) (fun c53 => ?_) (fun c53 => ?_)
            · replace hf := xsBr_t c53 hf
              refine lv_iload_n hx hb dX11_blame_234 rfl (lv_at hl 3 rfl) ?_
              refine lv_istore_n (lv' := [(1, .int y37), (0, .ref (xsA X 100)), (2, .int y36), (3, .int y37), (4, .int y45)]) hx hb dX11_blame_235 rfl hl (by decide) rfl (fun ls hl => ?_)
              refine lv_iload hx hb dX11_blame_236 (lv_at hl 4 rfl) ?_
              refine lv_istore_n (lv' := [(2, .int y45), (1, .int y37), (0, .ref (xsA X 100)), (3, .int y37), (4, .int y45)]) hx hb dX11_blame_238 rfl hl (by decide) rfl (fun ls hl => ?_)
              have ev := Option.some.inj hf
              subst ev
              exact K51 y37 y45 hk50 H locs ls hP hD hS (lv_sub hl [2, 1, 0, 3] rfl)
            · replace hf := xsBr_f c53 hf
              refine lv_iload hx hb dX11_blame_225 (lv_at hl 4 rfl) ?_
              refine lv_iload_n hx hb dX11_blame_227 rfl (lv_at hl 2 rfl) ?_
              refine lv_icmp_lt (tgt := 234) hx hb dX11_blame_228 (by decide) (fun c52 => ?_) (fun c52 => ?_)
              · replace hf := xsBr_t c52 hf
                refine lv_iload_n hx hb dX11_blame_234 rfl (lv_at hl 3 rfl) ?_
                refine lv_istore_n (lv' := [(1, .int y37), (0, .ref (xsA X 100)), (2, .int y36), (3, .int y37), (4, .int y45)]) hx hb dX11_blame_235 rfl hl (by decide) rfl (fun ls hl => ?_)
                refine lv_iload hx hb dX11_blame_236 (lv_at hl 4 rfl) ?_
                refine lv_istore_n (lv' := [(2, .int y45), (1, .int y37), (0, .ref (xsA X 100)), (3, .int y37), (4, .int y45)]) hx hb dX11_blame_238 rfl hl (by decide) rfl (fun ls hl => ?_)
                have ev := Option.some.inj hf
                subst ev
                exact K51 y37 y45 hk50 H locs ls hP hD hS (lv_sub hl [2, 1, 0, 3] rfl)
              · replace hf := xsBr_f c52 hf
                refine lv_goto (tgt := 239) hx hb dX11_blame_231 (by decide) ?_
                have ev := Option.some.inj hf
                subst ev
                exact K51 y35 y36 hk50 H locs ls hP hD hS (lv_sub hl [0, 1, 2, 3] rfl)
          replace hf := xsBd_use hf
          obtain ⟨r44, hk440, hf⟩ := hf
          have L44 : ∀ (sg : Int32 × Int32) (rg : Int32), xsWh (fun s44 => fX11_blame_L173 mCrossings y33 y34 y37 s44.1 s44.2) sg = some rg → (fX11_blame_J220 y35 y36 y37 rg = some u38 → ∀ (H : Heap) (locs : List Loc) (ls : Array Slot), va_P (xsD X) vwCl (wM X mThrown mWorld mImage mDraft mEarlier mRemembered mHasImage mIsLaid y22 y23 y24 y25 y26 y27 y28 y29 y30 y31 y32 mBundle mEventOf mDegree mFrom mTo mCrossings mEdges mMet mUpper mLower mTape mTaped mPoint mEnd mBegin mFaultAt mFive mTold mActs mFar mViews mHullX mHullY mEndX mEndY mHeightUp mHeightLow y33 y34 Rw) H → va_D (xsF X) (wM X mThrown mWorld mImage mDraft mEarlier mRemembered mHasImage mIsLaid y22 y23 y24 y25 y26 y27 y28 y29 y30 y31 y32 mBundle mEventOf mDegree mFrom mTo mCrossings mEdges mMet mUpper mLower mTape mTaped mPoint mEnd mBegin mFaultAt mFive mTold mActs mFar mViews mHullX mHullY mEndX mEndY mHeightUp mHeightLow y33 y34 Rw) → va_S (xsF X) s.heap H locs → lv_has ls 6 [(0, .ref (xsA X 100)), (1, .int y35), (2, .int y36), (3, .int y37), (4, .int sg.1), (5, .int sg.2)] → W p l e { frames := 5, cells := 0, slots := 0, locals := 141 } s m ([.ref (xsA X 100)] : List Value).toArray below meth c H locs 0 0 (MQ below Qq ([.ref (xsA X 100)] : List Value).toArray s 0 0 (xsF X)) (F0 m 173 ls [])) := by
            refine xsWh_ind ?_
            intro sg r44 u44 hf ih44 hx44 hk44 H locs ls hP hD hS hl
            obtain ⟨y42, y43⟩ := sg
            replace hf : fX11_blame_L173 mCrossings y33 y34 y37 y42 y43 = some u44 := hf
            replace hl : lv_has ls 6 [(0, .ref (xsA X 100)), (1, .int y35), (2, .int y36), (3, .int y37), (4, .int y42), (5, .int y43)] := hl
            replace hP : va_P (xsD X) vwCl (wM X mThrown mWorld mImage mDraft mEarlier mRemembered mHasImage mIsLaid y22 y23 y24 y25 y26 y27 y28 y29 y30 y31 y32 mBundle mEventOf mDegree mFrom mTo mCrossings mEdges mMet mUpper mLower mTape mTaped mPoint mEnd mBegin mFaultAt mFive mTold mActs mFar mViews mHullX mHullY mEndX mEndY mHeightUp mHeightLow y33 y34 Rw) H := hP
            replace hD : va_D (xsF X) (wM X mThrown mWorld mImage mDraft mEarlier mRemembered mHasImage mIsLaid y22 y23 y24 y25 y26 y27 y28 y29 y30 y31 y32 mBundle mEventOf mDegree mFrom mTo mCrossings mEdges mMet mUpper mLower mTape mTaped mPoint mEnd mBegin mFaultAt mFive mTold mActs mFar mViews mHullX mHullY mEndX mEndY mHeightUp mHeightLow y33 y34 Rw) := hD
            unfold fX11_blame_L173 at hf
            refine lv_iload hx hb dX11_blame_173 (lv_at hl 5 rfl) ?_
            refine lv_aload_n hx hb dX11_blame_175 rfl (lv_at hl 0 rfl) ?_
            refine xg_X11_206 C hP dX11_blame_176 ?_
            refine lv_icmp_ge (tgt := 220) hx hb dX11_blame_179 (by decide) (fun c63 => ?_) (fun c63 => ?_)
            · replace hf := xsBr_t c63 hf
              have ez := hx44 _ (Option.some.inj hf).symm
              subst ez
              exact K44 y42 hk44 H locs ls hP hD hS (lv_sub hl [0, 1, 2, 3, 4] rfl)
            · replace hf := xsBr_f c63 hf
              refine lv_iload hx hb dX11_blame_182 (lv_at hl 4 rfl) ?_
              refine lv_aload_n hx hb dX11_blame_184 rfl (lv_at hl 0 rfl) ?_
              refine xg_X11_103 C hP dX11_blame_185 ?_
              refine lv_iload hx hb dX11_blame_188 (lv_at hl 5 rfl) ?_
              replace hf := xsCk_use hf
              obtain ⟨h54, hf⟩ := hf
              refine xl_mMeets C hP h54 dX11_blame_190 ?_
              refine lv_aload_n hx hb dX11_blame_191 rfl (lv_at hl 0 rfl) ?_
              refine xg_X11_106 C hP dX11_blame_192 ?_
              refine lv_bipush (v := (24 : Int32)) hx hb dX11_blame_195 (by decide) ?_
              refine lv_iload hx hb dX11_blame_197 (lv_at hl 5 rfl) ?_
              refine lv_imul hx hb dX11_blame_199 ?_
              refine lv_iload_n hx hb dX11_blame_200 rfl (lv_at hl 3 rfl) ?_
              refine lv_iadd hx hb dX11_blame_201 ?_
              replace hf := xsCk_use hf
              obtain ⟨h55, hf⟩ := hf
              refine xl_mMeetsOf C hP h55 dX11_blame_202 ?_
              have K61 : ∀ (y56 : Int32) (hf : fX11_blame_J211 y42 y43 y56 = some u44) (H : Heap) (locs : List Loc) (ls : Array Slot), va_P (xsD X) vwCl (wM X mThrown mWorld mImage mDraft mEarlier mRemembered mHasImage mIsLaid y22 y23 y24 y25 y26 y27 y28 y29 y30 y31 y32 mBundle mEventOf mDegree mFrom mTo mCrossings mEdges mMet mUpper mLower mTape mTaped mPoint mEnd mBegin mFaultAt mFive mTold mActs mFar mViews mHullX mHullY mEndX mEndY mHeightUp mHeightLow y33 y34 Rw) H → va_D (xsF X) (wM X mThrown mWorld mImage mDraft mEarlier mRemembered mHasImage mIsLaid y22 y23 y24 y25 y26 y27 y28 y29 y30 y31 y32 mBundle mEventOf mDegree mFrom mTo mCrossings mEdges mMet mUpper mLower mTape mTaped mPoint mEnd mBegin mFaultAt mFive mTold mActs mFar mViews mHullX mHullY mEndX mEndY mHeightUp mHeightLow y33 y34 Rw) → va_S (xsF X) s.heap H locs → lv_has ls 6 [(0, .ref (xsA X 100)), (1, .int y35), (2, .int y36), (3, .int y37), (5, .int y43)] → W p l e { frames := 5, cells := 0, slots := 0, locals := 141 } s m ([.ref (xsA X 100)] : List Value).toArray below meth c H locs 0 0 (MQ below Qq ([.ref (xsA X 100)] : List Value).toArray s 0 0 (xsF X)) (F0 m 211 ls [.int y56, .int y42]) := by
                intro y56 hf H locs ls hP hD hS hl
                unfold fX11_blame_J211 at hf
                refine lv_iadd hx hb dX11_blame_211 ?_
                refine lv_topi (fun x57 ex57 => ?_)
                replace hf := xsLt_use ex57 hf
                refine lv_istore (lv' := [(4, .int x57), (0, .ref (xsA X 100)), (1, .int y35), (2, .int y36), (3, .int y37), (5, .int y43)]) hx hb dX11_blame_212 hl (by decide) rfl (fun ls hl => ?_)
                obtain ⟨x58, ex58⟩ : ∃ y : Int32, y = y43 + (1 : Int32) := ⟨_, rfl⟩
                replace hf := xsLt_use ex58 hf
                refine lv_iinc (v := x58) (lv' := [(5, .int x58), (4, .int x57), (0, .ref (xsA X 100)), (1, .int y35), (2, .int y36), (3, .int y37)]) hx hb dX11_blame_214 hl (k := 5) rfl (by rw [ex58]; rfl) (by decide) rfl (fun ls hl => ?_)
                refine lv_goto (tgt := 173) hx hb dX11_blame_217 (by decide) ?_
                exact ih44 _ (Option.some.inj hf).symm hk44 H locs ls hP hD hS (lv_sub hl [2, 3, 4, 5, 1, 0] rfl)
              replace hf := xsBd_use hf
              obtain ⟨v59, hf, hk60⟩ := hf
              refine lv_icmp_le (tgt := 210) hx hb dX11_blame_203 (by decide) (fun c62 => ?_) (fun c62 => ?_)
              · replace hf := xsBr_t c62 hf
                refine lv_iconst (v := (0 : Int32)) hx hb dX11_blame_210 (by decide) ?_
                have ev := Option.some.inj hf
                subst ev
                exact K61 (0 : Int32) hk60 H locs ls hP hD hS (lv_sub hl [0, 1, 2, 3, 5] rfl)
              · replace hf := xsBr_f c62 hf
                refine lv_iconst (v := (1 : Int32)) hx hb dX11_blame_206 (by decide) ?_
                refine lv_goto (tgt := 211) hx hb dX11_blame_207 (by decide) ?_
                have ev := Option.some.inj hf
                subst ev
                exact K61 (1 : Int32) hk60 H locs ls hP hD hS (lv_sub hl [0, 1, 2, 3, 5] rfl)
          exact L44 ((0 : Int32), (0 : Int32)) r44 hk440 hf H locs ls hP hD hS (lv_sub hl [2, 3, 4, 5, 1, 0] rfl)
      exact L38 ((-1 : Int32), (0 : Int32), (0 : Int32)) r38 hk380 hf H locs ls hP hD hS (lv_sub hl [3, 2, 1, 0] rfl)
    replace hf := xsBd_use hf
    obtain ⟨r21, hk210, hf⟩ := hf
    have L21 : ∀ (sg : Int32 × (Nat → Int32) × (Nat → Int32) × (Nat → Int32) × Int64 × Int64 × Int64 × (Nat → Int64) × (Nat → Int64) × (Nat → Int64) × Int32 × (Nat → Int32) × (Nat → Int32) × (Nat → Int32)) (rg : (Nat → Int32) × (Nat → Int32) × (Nat → Int32) × Int64 × Int64 × Int64 × (Nat → Int64) × (Nat → Int64) × (Nat → Int64) × Int32 × (Nat → Int32) × (Nat → Int32) × (Nat → Int32)), xsWh (fun s21 => fX11_blame_L51 mWorld s21.1 s21.2.1 s21.2.2.1 s21.2.2.2.1 s21.2.2.2.2.1 s21.2.2.2.2.2.1 s21.2.2.2.2.2.2.1 s21.2.2.2.2.2.2.2.1 s21.2.2.2.2.2.2.2.2.1 s21.2.2.2.2.2.2.2.2.2.1 s21.2.2.2.2.2.2.2.2.2.2.1 s21.2.2.2.2.2.2.2.2.2.2.2.1 s21.2.2.2.2.2.2.2.2.2.2.2.2.1 s21.2.2.2.2.2.2.2.2.2.2.2.2.2) sg = some rg → (fX11_blame_J153 mWorld mCrossings rg.1 rg.2.1 rg.2.2.1 rg.2.2.2.1 rg.2.2.2.2.1 rg.2.2.2.2.2.1 rg.2.2.2.2.2.2.1 rg.2.2.2.2.2.2.2.1 rg.2.2.2.2.2.2.2.2.1 rg.2.2.2.2.2.2.2.2.2.1 rg.2.2.2.2.2.2.2.2.2.2.1 rg.2.2.2.2.2.2.2.2.2.2.2.1 rg.2.2.2.2.2.2.2.2.2.2.2.2 = some out → ∀ (H : Heap) (locs : List Loc) (ls : Array Slot), va_P (xsD X) vwCl (wM X mThrown mWorld mImage mDraft mEarlier mRemembered mHasImage mIsLaid sg.2.1 sg.2.2.1 sg.2.2.2.1 sg.2.2.2.2.1 sg.2.2.2.2.2.1 sg.2.2.2.2.2.2.1 sg.2.2.2.2.2.2.2.1 sg.2.2.2.2.2.2.2.2.1 sg.2.2.2.2.2.2.2.2.2.1 sg.2.2.2.2.2.2.2.2.2.2.1 sg.2.2.2.2.2.2.2.2.2.2.2.1 mBundle mEventOf mDegree mFrom mTo mCrossings mEdges mMet mUpper mLower mTape mTaped mPoint mEnd mBegin mFaultAt mFive mTold mActs mFar mViews mHullX mHullY mEndX mEndY mHeightUp mHeightLow sg.2.2.2.2.2.2.2.2.2.2.2.2.1 sg.2.2.2.2.2.2.2.2.2.2.2.2.2 Rw) H → va_D (xsF X) (wM X mThrown mWorld mImage mDraft mEarlier mRemembered mHasImage mIsLaid sg.2.1 sg.2.2.1 sg.2.2.2.1 sg.2.2.2.2.1 sg.2.2.2.2.2.1 sg.2.2.2.2.2.2.1 sg.2.2.2.2.2.2.2.1 sg.2.2.2.2.2.2.2.2.1 sg.2.2.2.2.2.2.2.2.2.1 sg.2.2.2.2.2.2.2.2.2.2.1 sg.2.2.2.2.2.2.2.2.2.2.2.1 mBundle mEventOf mDegree mFrom mTo mCrossings mEdges mMet mUpper mLower mTape mTaped mPoint mEnd mBegin mFaultAt mFive mTold mActs mFar mViews mHullX mHullY mEndX mEndY mHeightUp mHeightLow sg.2.2.2.2.2.2.2.2.2.2.2.2.1 sg.2.2.2.2.2.2.2.2.2.2.2.2.2 Rw) → va_S (xsF X) s.heap H locs → lv_has ls 6 [(0, .ref (xsA X 100)), (1, .int sg.1)] → W p l e { frames := 5, cells := 0, slots := 0, locals := 141 } s m ([.ref (xsA X 100)] : List Value).toArray below meth c H locs 0 0 (MQ below Qq ([.ref (xsA X 100)] : List Value).toArray s 0 0 (xsF X)) (F0 m 51 ls [])) := by
      refine xsWh_ind ?_
      intro sg r21 u21 hf ih21 hx21 hk21 H locs ls hP hD hS hl
      obtain ⟨y7, y8, y9, y10, y11, y12, y13, y14, y15, y16, y17, y18, y19, y20⟩ := sg
      replace hf : fX11_blame_L51 mWorld y7 y8 y9 y10 y11 y12 y13 y14 y15 y16 y17 y18 y19 y20 = some u21 := hf
      replace hl : lv_has ls 6 [(0, .ref (xsA X 100)), (1, .int y7)] := hl
      replace hP : va_P (xsD X) vwCl (wM X mThrown mWorld mImage mDraft mEarlier mRemembered mHasImage mIsLaid y8 y9 y10 y11 y12 y13 y14 y15 y16 y17 y18 mBundle mEventOf mDegree mFrom mTo mCrossings mEdges mMet mUpper mLower mTape mTaped mPoint mEnd mBegin mFaultAt mFive mTold mActs mFar mViews mHullX mHullY mEndX mEndY mHeightUp mHeightLow y19 y20 Rw) H := hP
      replace hD : va_D (xsF X) (wM X mThrown mWorld mImage mDraft mEarlier mRemembered mHasImage mIsLaid y8 y9 y10 y11 y12 y13 y14 y15 y16 y17 y18 mBundle mEventOf mDegree mFrom mTo mCrossings mEdges mMet mUpper mLower mTape mTaped mPoint mEnd mBegin mFaultAt mFive mTold mActs mFar mViews mHullX mHullY mEndX mEndY mHeightUp mHeightLow y19 y20 Rw) := hD
      unfold fX11_blame_L51 at hf
      refine lv_iload_n hx hb dX11_blame_51 rfl (lv_at hl 1 rfl) ?_
      refine lv_aload_n hx hb dX11_blame_52 rfl (lv_at hl 0 rfl) ?_
      replace hf := xsBd_use hf
      obtain ⟨o65, h66, hf⟩ := hf
      refine xs_calli hS (xs_runV (As := []) C (mX11_many l  h66) w_1581 w_1583 w_44 w_115 w_1584 hd_X11_many ⟨rfl, rfl, Nat.le_of_ble_eq_true rfl, Nat.le_of_ble_eq_true rfl, Nat.zero_le _, Nat.zero_le _⟩ hP hD hS lk_X11 rfl hl.1 rfl (Nat.le_of_ble_eq_true rfl) dX11_blame_53) (fun H locs hP hD hS => ?_)
      refine lv_icmp_ge (tgt := 153) hx hb dX11_blame_56 (by decide) (fun c126 => ?_) (fun c126 => ?_)
      · replace hf := xsBr_t c126 hf
        have ez := hx21 _ (Option.some.inj hf).symm
        subst ez
        exact K21 y8 y9 y10 y11 y12 y13 y14 y15 y16 y17 y18 y19 y20 hk21 H locs ls hP hD hS (lv_sub hl [0] rfl)
      · replace hf := xsBr_f c126 hf
        refine lv_iconst (v := (0 : Int32)) hx hb dX11_blame_59 (by decide) ?_
        refine lv_istore_n (lv' := [(2, .int (0 : Int32)), (0, .ref (xsA X 100)), (1, .int y7)]) hx hb dX11_blame_60 rfl hl (by decide) rfl (fun ls hl => ?_)
        have K81 : ∀ (y82 : Nat → Int32) (y83 : Nat → Int32) (y84 : Nat → Int32) (y85 : Int64) (y86 : Int64) (y87 : Int64) (y88 : Nat → Int64) (y89 : Nat → Int64) (y90 : Nat → Int64) (y91 : Int32) (y92 : Nat → Int32) (y93 : Nat → Int32) (y94 : Nat → Int32) (hf : fX11_blame_J147 y7 y82 y83 y84 y85 y86 y87 y88 y89 y90 y91 y92 y93 y94 = some u21) (H : Heap) (locs : List Loc) (ls : Array Slot), va_P (xsD X) vwCl (wM X mThrown mWorld mImage mDraft mEarlier mRemembered mHasImage mIsLaid y82 y83 y84 y85 y86 y87 y88 y89 y90 y91 y92 mBundle mEventOf mDegree mFrom mTo mCrossings mEdges mMet mUpper mLower mTape mTaped mPoint mEnd mBegin mFaultAt mFive mTold mActs mFar mViews mHullX mHullY mEndX mEndY mHeightUp mHeightLow y93 y94 Rw) H → va_D (xsF X) (wM X mThrown mWorld mImage mDraft mEarlier mRemembered mHasImage mIsLaid y82 y83 y84 y85 y86 y87 y88 y89 y90 y91 y92 mBundle mEventOf mDegree mFrom mTo mCrossings mEdges mMet mUpper mLower mTape mTaped mPoint mEnd mBegin mFaultAt mFive mTold mActs mFar mViews mHullX mHullY mEndX mEndY mHeightUp mHeightLow y93 y94 Rw) → va_S (xsF X) s.heap H locs → lv_has ls 6 [(0, .ref (xsA X 100)), (1, .int y7)] → W p l e { frames := 5, cells := 0, slots := 0, locals := 141 } s m ([.ref (xsA X 100)] : List Value).toArray below meth c H locs 0 0 (MQ below Qq ([.ref (xsA X 100)] : List Value).toArray s 0 0 (xsF X)) (F0 m 147 ls []) := by
          intro y82 y83 y84 y85 y86 y87 y88 y89 y90 y91 y92 y93 y94 hf H locs ls hP hD hS hl
          unfold fX11_blame_J147 at hf
          obtain ⟨x95, ex95⟩ : ∃ y : Int32, y = y7 + (1 : Int32) := ⟨_, rfl⟩
          replace hf := xsLt_use ex95 hf
          refine lv_iinc (v := x95) (lv' := [(1, .int x95), (0, .ref (xsA X 100))]) hx hb dX11_blame_147 hl (k := 1) rfl (by rw [ex95]; rfl) (by decide) rfl (fun ls hl => ?_)
          refine lv_goto (tgt := 51) hx hb dX11_blame_150 (by decide) ?_
          exact ih21 _ (Option.some.inj hf).symm hk21 H locs ls hP hD hS (lv_sub hl [1, 0] rfl)
        replace hf := xsBd_use hf
        obtain ⟨r81, hk810, hf⟩ := hf
        have L81 : ∀ (sg : Int32 × (Nat → Int32) × (Nat → Int32) × (Nat → Int32) × Int64 × Int64 × Int64 × (Nat → Int64) × (Nat → Int64) × (Nat → Int64) × Int32 × (Nat → Int32) × (Nat → Int32) × (Nat → Int32)) (rg : (Nat → Int32) × (Nat → Int32) × (Nat → Int32) × Int64 × Int64 × Int64 × (Nat → Int64) × (Nat → Int64) × (Nat → Int64) × Int32 × (Nat → Int32) × (Nat → Int32) × (Nat → Int32)), xsWh (fun s81 => fX11_blame_L61 mWorld y7 s81.1 s81.2.1 s81.2.2.1 s81.2.2.2.1 s81.2.2.2.2.1 s81.2.2.2.2.2.1 s81.2.2.2.2.2.2.1 s81.2.2.2.2.2.2.2.1 s81.2.2.2.2.2.2.2.2.1 s81.2.2.2.2.2.2.2.2.2.1 s81.2.2.2.2.2.2.2.2.2.2.1 s81.2.2.2.2.2.2.2.2.2.2.2.1 s81.2.2.2.2.2.2.2.2.2.2.2.2.1 s81.2.2.2.2.2.2.2.2.2.2.2.2.2) sg = some rg → (fX11_blame_J147 y7 rg.1 rg.2.1 rg.2.2.1 rg.2.2.2.1 rg.2.2.2.2.1 rg.2.2.2.2.2.1 rg.2.2.2.2.2.2.1 rg.2.2.2.2.2.2.2.1 rg.2.2.2.2.2.2.2.2.1 rg.2.2.2.2.2.2.2.2.2.1 rg.2.2.2.2.2.2.2.2.2.2.1 rg.2.2.2.2.2.2.2.2.2.2.2.1 rg.2.2.2.2.2.2.2.2.2.2.2.2 = some u21 → ∀ (H : Heap) (locs : List Loc) (ls : Array Slot), va_P (xsD X) vwCl (wM X mThrown mWorld mImage mDraft mEarlier mRemembered mHasImage mIsLaid sg.2.1 sg.2.2.1 sg.2.2.2.1 sg.2.2.2.2.1 sg.2.2.2.2.2.1 sg.2.2.2.2.2.2.1 sg.2.2.2.2.2.2.2.1 sg.2.2.2.2.2.2.2.2.1 sg.2.2.2.2.2.2.2.2.2.1 sg.2.2.2.2.2.2.2.2.2.2.1 sg.2.2.2.2.2.2.2.2.2.2.2.1 mBundle mEventOf mDegree mFrom mTo mCrossings mEdges mMet mUpper mLower mTape mTaped mPoint mEnd mBegin mFaultAt mFive mTold mActs mFar mViews mHullX mHullY mEndX mEndY mHeightUp mHeightLow sg.2.2.2.2.2.2.2.2.2.2.2.2.1 sg.2.2.2.2.2.2.2.2.2.2.2.2.2 Rw) H → va_D (xsF X) (wM X mThrown mWorld mImage mDraft mEarlier mRemembered mHasImage mIsLaid sg.2.1 sg.2.2.1 sg.2.2.2.1 sg.2.2.2.2.1 sg.2.2.2.2.2.1 sg.2.2.2.2.2.2.1 sg.2.2.2.2.2.2.2.1 sg.2.2.2.2.2.2.2.2.1 sg.2.2.2.2.2.2.2.2.2.1 sg.2.2.2.2.2.2.2.2.2.2.1 sg.2.2.2.2.2.2.2.2.2.2.2.1 mBundle mEventOf mDegree mFrom mTo mCrossings mEdges mMet mUpper mLower mTape mTaped mPoint mEnd mBegin mFaultAt mFive mTold mActs mFar mViews mHullX mHullY mEndX mEndY mHeightUp mHeightLow sg.2.2.2.2.2.2.2.2.2.2.2.2.1 sg.2.2.2.2.2.2.2.2.2.2.2.2.2 Rw) → va_S (xsF X) s.heap H locs → lv_has ls 6 [(0, .ref (xsA X 100)), (1, .int y7), (2, .int sg.1)] → W p l e { frames := 5, cells := 0, slots := 0, locals := 141 } s m ([.ref (xsA X 100)] : List Value).toArray below meth c H locs 0 0 (MQ below Qq ([.ref (xsA X 100)] : List Value).toArray s 0 0 (xsF X)) (F0 m 61 ls [])) := by
          refine xsWh_ind ?_
          intro sg r81 u81 hf ih81 hx81 hk81 H locs ls hP hD hS hl
          obtain ⟨y67, y68, y69, y70, y71, y72, y73, y74, y75, y76, y77, y78, y79, y80⟩ := sg
          replace hf : fX11_blame_L61 mWorld y7 y67 y68 y69 y70 y71 y72 y73 y74 y75 y76 y77 y78 y79 y80 = some u81 := hf
          replace hl : lv_has ls 6 [(0, .ref (xsA X 100)), (1, .int y7), (2, .int y67)] := hl
          replace hP : va_P (xsD X) vwCl (wM X mThrown mWorld mImage mDraft mEarlier mRemembered mHasImage mIsLaid y68 y69 y70 y71 y72 y73 y74 y75 y76 y77 y78 mBundle mEventOf mDegree mFrom mTo mCrossings mEdges mMet mUpper mLower mTape mTaped mPoint mEnd mBegin mFaultAt mFive mTold mActs mFar mViews mHullX mHullY mEndX mEndY mHeightUp mHeightLow y79 y80 Rw) H := hP
          replace hD : va_D (xsF X) (wM X mThrown mWorld mImage mDraft mEarlier mRemembered mHasImage mIsLaid y68 y69 y70 y71 y72 y73 y74 y75 y76 y77 y78 mBundle mEventOf mDegree mFrom mTo mCrossings mEdges mMet mUpper mLower mTape mTaped mPoint mEnd mBegin mFaultAt mFive mTold mActs mFar mViews mHullX mHullY mEndX mEndY mHeightUp mHeightLow y79 y80 Rw) := hD
          unfold fX11_blame_L61 at hf
          refine lv_iload_n hx hb dX11_blame_61 rfl (lv_at hl 2 rfl) ?_
          refine lv_iload_n hx hb dX11_blame_62 rfl (lv_at hl 1 rfl) ?_
          refine lv_icmp_ge (tgt := 147) hx hb dX11_blame_63 (by decide) (fun c125 => ?_) (fun c125 => ?_)
          · replace hf := xsBr_t c125 hf
            have ez := hx81 _ (Option.some.inj hf).symm
            subst ez
            exact K81 y68 y69 y70 y71 y72 y73 y74 y75 y76 y77 y78 y79 y80 hk81 H locs ls hP hD hS (lv_sub hl [0, 1] rfl)
          · replace hf := xsBr_f c125 hf
            refine lv_aload_n hx hb dX11_blame_66 rfl (lv_at hl 0 rfl) ?_
            refine lv_iload_n hx hb dX11_blame_67 rfl (lv_at hl 1 rfl) ?_
            refine lv_iload_n hx hb dX11_blame_68 rfl (lv_at hl 2 rfl) ?_
            replace hf := xsBd_use hf
            obtain ⟨o96, h97, hf⟩ := hf
            refine xs_calli hS (xs_runV (As := [.int y7, .int y67]) C (mX11_sharesOf l  h97) w_1657 w_1659 w_58 w_115 w_1660 hd_X11_sharesOf ⟨rfl, rfl, Nat.le_of_ble_eq_true rfl, Nat.le_of_ble_eq_true rfl, Nat.zero_le _, Nat.zero_le _⟩ hP hD hS lk_X11 rfl hl.1 rfl (Nat.le_of_ble_eq_true rfl) dX11_blame_69) (fun H locs hP hD hS => ?_)
            refine lv_iconst (v := (1 : Int32)) hx hb dX11_blame_72 (by decide) ?_
            have K108 : ∀ (y98 : Nat → Int64) (y99 : Nat → Int64) (y100 : Nat → Int64) (y101 : Int32) (y102 : Nat → Int32) (y103 : Nat → Int32) (y104 : Nat → Int32) (hf : fX11_blame_J141 y67 o96 y98 y99 y100 y101 y102 y103 y104 = some u81) (H : Heap) (locs : List Loc) (ls : Array Slot), va_P (xsD X) vwCl (wM X mThrown mWorld mImage mDraft mEarlier mRemembered mHasImage mIsLaid o96.2.1 o96.2.2.1 o96.2.2.2.1 o96.2.2.2.2.1 o96.2.2.2.2.2.1 o96.2.2.2.2.2.2 y98 y99 y100 y101 y102 mBundle mEventOf mDegree mFrom mTo mCrossings mEdges mMet mUpper mLower mTape mTaped mPoint mEnd mBegin mFaultAt mFive mTold mActs mFar mViews mHullX mHullY mEndX mEndY mHeightUp mHeightLow y103 y104 Rw) H → va_D (xsF X) (wM X mThrown mWorld mImage mDraft mEarlier mRemembered mHasImage mIsLaid o96.2.1 o96.2.2.1 o96.2.2.2.1 o96.2.2.2.2.1 o96.2.2.2.2.2.1 o96.2.2.2.2.2.2 y98 y99 y100 y101 y102 mBundle mEventOf mDegree mFrom mTo mCrossings mEdges mMet mUpper mLower mTape mTaped mPoint mEnd mBegin mFaultAt mFive mTold mActs mFar mViews mHullX mHullY mEndX mEndY mHeightUp mHeightLow y103 y104 Rw) → va_S (xsF X) s.heap H locs → lv_has ls 6 [(0, .ref (xsA X 100)), (1, .int y7), (2, .int y67)] → W p l e { frames := 5, cells := 0, slots := 0, locals := 141 } s m ([.ref (xsA X 100)] : List Value).toArray below meth c H locs 0 0 (MQ below Qq ([.ref (xsA X 100)] : List Value).toArray s 0 0 (xsF X)) (F0 m 141 ls []) := by
              intro y98 y99 y100 y101 y102 y103 y104 hf H locs ls hP hD hS hl
              unfold fX11_blame_J141 at hf
              obtain ⟨x105, ex105⟩ : ∃ y : Int32, y = y67 + (1 : Int32) := ⟨_, rfl⟩
              replace hf := xsLt_use ex105 hf
              refine lv_iinc (v := x105) (lv' := [(2, .int x105), (0, .ref (xsA X 100)), (1, .int y7)]) hx hb dX11_blame_141 hl (k := 2) rfl (by rw [ex105]; rfl) (by decide) rfl (fun ls hl => ?_)
              refine lv_goto (tgt := 61) hx hb dX11_blame_144 (by decide) ?_
              exact ih81 _ (Option.some.inj hf).symm hk81 H locs ls hP hD hS (lv_sub hl [1, 2, 0] rfl)
            replace hf := xsBd_use hf
            obtain ⟨v106, hf, hk107⟩ := hf
            refine lv_icmp_eq (tgt := 79) hx hb dX11_blame_73 (by decide) (fun c124 => ?_) (fun c124 => ?_)
            · replace hf := xsBr_t c124 hf
              refine lv_aload_n hx hb dX11_blame_79 rfl (lv_at hl 0 rfl) ?_
              refine xg_X11_45 C hP dX11_blame_80 ?_
              refine lv_aload_n hx hb dX11_blame_83 rfl (lv_at hl 0 rfl) ?_
              refine lv_aload_n hx hb dX11_blame_84 rfl (lv_at hl 0 rfl) ?_
              refine xg_X11_147 C hP dX11_blame_85 ?_
              refine lv_aload_n hx hb dX11_blame_88 rfl (lv_at hl 0 rfl) ?_
              refine xg_X11_151 C hP dX11_blame_89 ?_
              refine lv_aload_n hx hb dX11_blame_92 rfl (lv_at hl 0 rfl) ?_
              refine xg_X11_154 C hP dX11_blame_93 ?_
              replace hf := xsBd_use hf
              obtain ⟨o109, h110, hf⟩ := hf
              refine xs_calli hS (xs_runV (As := [.long o96.2.2.2.2.1, .long o96.2.2.2.2.2.1, .long o96.2.2.2.2.2.2]) C (mX11_stands l  h110) w_1650 w_1652 w_57 w_115 w_1653 hd_X11_stands ⟨rfl, rfl, Nat.le_of_ble_eq_true rfl, Nat.le_of_ble_eq_true rfl, Nat.zero_le _, Nat.zero_le _⟩ hP hD hS lk_X11 rfl hl.1 rfl (Nat.le_of_ble_eq_true rfl) dX11_blame_96) (fun H locs hP hD hS => ?_)
              replace hf := xsCk_use hf
              obtain ⟨h111, hf⟩ := hf
              refine xl_mCrossingOf C hP h111 dX11_blame_99 ?_
              refine lv_topi (fun x112 ex112 => ?_)
              replace hf := xsLt_use ex112 hf
              refine lv_istore_n (lv' := [(3, .int x112), (0, .ref (xsA X 100)), (1, .int y7), (2, .int y67)]) hx hb dX11_blame_100 rfl hl (by decide) rfl (fun ls hl => ?_)
              refine lv_aload_n hx hb dX11_blame_101 rfl (lv_at hl 1 rfl) ?_
              refine xg_X11_103 C hP dX11_blame_102 ?_
              refine lv_iload_n hx hb dX11_blame_105 rfl (lv_at hl 0 rfl) ?_
              refine lv_dup2_11 hx hb dX11_blame_106 rfl rfl ?_
              replace hf := xsCk_use hf
              obtain ⟨h113, hf⟩ := hf
              refine xl_mMeets C hP h113 dX11_blame_107 ?_
              refine lv_iconst (v := (1 : Int32)) hx hb dX11_blame_108 (by decide) ?_
              refine lv_iadd hx hb dX11_blame_109 ?_
              replace hf := xsCk_use hf
              obtain ⟨h114, hf⟩ := hf
              refine xs_mMeets C hP hD hS h114 dX11_blame_110 (fun f115 ef115 H locs hP hD hS => ?_)
              replace hf := xsLt_use ef115 hf
              refine lv_aload_n hx hb dX11_blame_111 rfl (lv_at hl 1 rfl) ?_
              refine xg_X11_106 C hP dX11_blame_112 ?_
              refine lv_bipush (v := (24 : Int32)) hx hb dX11_blame_115 (by decide) ?_
              refine lv_iload_n hx hb dX11_blame_117 rfl (lv_at hl 0 rfl) ?_
              refine lv_imul hx hb dX11_blame_118 ?_
              refine lv_iload_n hx hb dX11_blame_119 rfl (lv_at hl 2 rfl) ?_
              refine lv_iadd hx hb dX11_blame_120 ?_
              refine lv_topi (fun x116 ex116 => ?_)
              replace hf := xsLt_use ex116 hf
              refine lv_dup2_11 hx hb dX11_blame_121 rfl rfl ?_
              replace hf := xsCk_use hf
              obtain ⟨h117, hf⟩ := hf
              refine xl_mMeetsOf C hP h117 dX11_blame_122 ?_
              refine lv_iconst (v := (1 : Int32)) hx hb dX11_blame_123 (by decide) ?_
              refine lv_iadd hx hb dX11_blame_124 ?_
              replace hf := xsCk_use hf
              obtain ⟨h118, hf⟩ := hf
              refine xs_mMeetsOf C hP hD hS h118 dX11_blame_125 (fun f119 ef119 H locs hP hD hS => ?_)
              replace hf := xsLt_use ef119 hf
              refine lv_aload_n hx hb dX11_blame_126 rfl (lv_at hl 1 rfl) ?_
              refine xg_X11_106 C hP dX11_blame_127 ?_
              refine lv_bipush (v := (24 : Int32)) hx hb dX11_blame_130 (by decide) ?_
              refine lv_iload_n hx hb dX11_blame_132 rfl (lv_at hl 0 rfl) ?_
              refine lv_imul hx hb dX11_blame_133 ?_
              refine lv_iload_n hx hb dX11_blame_134 rfl (lv_at hl 3 rfl) ?_
              refine lv_iadd hx hb dX11_blame_135 ?_
              refine lv_topi (fun x120 ex120 => ?_)
              replace hf := xsLt_use ex120 hf
              refine lv_dup2_11 hx hb dX11_blame_136 rfl rfl ?_
              replace hf := xsCk_use hf
              obtain ⟨h121, hf⟩ := hf
              refine xl_mMeetsOf C hP h121 dX11_blame_137 ?_
              refine lv_iconst (v := (1 : Int32)) hx hb dX11_blame_138 (by decide) ?_
              refine lv_iadd hx hb dX11_blame_139 ?_
              replace hf := xsCk_use hf
              obtain ⟨h122, hf⟩ := hf
              refine xs_mMeetsOf C hP hD hS h122 dX11_blame_140 (fun f123 ef123 H locs hP hD hS => ?_)
              replace hf := xsLt_use ef123 hf
              have ev := Option.some.inj hf
              subst ev
              exact K108 o109.2.1 o109.2.2.1 o109.2.2.2.1 o109.2.2.2.2.1 o109.2.2.2.2.2 f115 f123 hk107 H locs ls hP hD hS (lv_sub hl [1, 2, 3] rfl)
            · replace hf := xsBr_f c124 hf
              refine lv_goto (tgt := 141) hx hb dX11_blame_76 (by decide) ?_
              have ev := Option.some.inj hf
              subst ev
              exact K108 y74 y75 y76 y77 y78 y79 y80 hk107 H locs ls hP hD hS (lv_sub hl [0, 1, 2] rfl)
        exact L81 ((0 : Int32), y8, y9, y10, y11, y12, y13, y14, y15, y16, y17, y18, y19, y20) r81 hk810 hf H locs ls hP hD hS (lv_sub hl [1, 2, 0] rfl)
    exact L21 ((0 : Int32), mOne, mTwo, mShare, mX, mY, mD, mEventX, mEventY, mEventD, mEvents, mCrossingOf, y5, y6) r21 hk210 hf H locs ls hP hD hS (lv_sub hl [1, 0] rfl)
  replace hf := xsBd_use hf
  obtain ⟨r4, hk40, hf⟩ := hf
  have L4 : ∀ (sg : Int32 × (Nat → Int32) × (Nat → Int32)) (rg : (Nat → Int32) × (Nat → Int32)), xsWh (fun s4 => fX11_blame_L2 mCrossings s4.1 s4.2.1 s4.2.2) sg = some rg → (fX11_blame_J49 mWorld mOne mTwo mShare mX mY mD mEventX mEventY mEventD mEvents mCrossingOf mCrossings rg.1 rg.2 = some out → ∀ (H : Heap) (locs : List Loc) (ls : Array Slot), va_P (xsD X) vwCl (wM X mThrown mWorld mImage mDraft mEarlier mRemembered mHasImage mIsLaid mOne mTwo mShare mX mY mD mEventX mEventY mEventD mEvents mCrossingOf mBundle mEventOf mDegree mFrom mTo mCrossings mEdges mMet mUpper mLower mTape mTaped mPoint mEnd mBegin mFaultAt mFive mTold mActs mFar mViews mHullX mHullY mEndX mEndY mHeightUp mHeightLow sg.2.1 sg.2.2 Rw) H → va_D (xsF X) (wM X mThrown mWorld mImage mDraft mEarlier mRemembered mHasImage mIsLaid mOne mTwo mShare mX mY mD mEventX mEventY mEventD mEvents mCrossingOf mBundle mEventOf mDegree mFrom mTo mCrossings mEdges mMet mUpper mLower mTape mTaped mPoint mEnd mBegin mFaultAt mFive mTold mActs mFar mViews mHullX mHullY mEndX mEndY mHeightUp mHeightLow sg.2.1 sg.2.2 Rw) → va_S (xsF X) s.heap H locs → lv_has ls 6 [(0, .ref (xsA X 100)), (1, .int sg.1)] → W p l e { frames := 5, cells := 0, slots := 0, locals := 141 } s m ([.ref (xsA X 100)] : List Value).toArray below meth c H locs 0 0 (MQ below Qq ([.ref (xsA X 100)] : List Value).toArray s 0 0 (xsF X)) (F0 m 2 ls [])) := by
    refine xsWh_ind ?_
    intro sg r4 u4 hf ih4 hx4 hk4 H locs ls hP hD hS hl
    obtain ⟨y1, y2, y3⟩ := sg
    replace hf : fX11_blame_L2 mCrossings y1 y2 y3 = some u4 := hf
    replace hl : lv_has ls 6 [(0, .ref (xsA X 100)), (1, .int y1)] := hl
    replace hP : va_P (xsD X) vwCl (wM X mThrown mWorld mImage mDraft mEarlier mRemembered mHasImage mIsLaid mOne mTwo mShare mX mY mD mEventX mEventY mEventD mEvents mCrossingOf mBundle mEventOf mDegree mFrom mTo mCrossings mEdges mMet mUpper mLower mTape mTaped mPoint mEnd mBegin mFaultAt mFive mTold mActs mFar mViews mHullX mHullY mEndX mEndY mHeightUp mHeightLow y2 y3 Rw) H := hP
    replace hD : va_D (xsF X) (wM X mThrown mWorld mImage mDraft mEarlier mRemembered mHasImage mIsLaid mOne mTwo mShare mX mY mD mEventX mEventY mEventD mEvents mCrossingOf mBundle mEventOf mDegree mFrom mTo mCrossings mEdges mMet mUpper mLower mTape mTaped mPoint mEnd mBegin mFaultAt mFive mTold mActs mFar mViews mHullX mHullY mEndX mEndY mHeightUp mHeightLow y2 y3 Rw) := hD
    unfold fX11_blame_L2 at hf
    refine lv_iload_n hx hb dX11_blame_2 rfl (lv_at hl 1 rfl) ?_
    refine lv_aload_n hx hb dX11_blame_3 rfl (lv_at hl 0 rfl) ?_
    refine xg_X11_206 C hP dX11_blame_4 ?_
    refine lv_icmp_ge (tgt := 49) hx hb dX11_blame_7 (by decide) (fun c138 => ?_) (fun c138 => ?_)
    · replace hf := xsBr_t c138 hf
      have ez := hx4 _ (Option.some.inj hf).symm
      subst ez
      exact K4 y2 y3 hk4 H locs ls hP hD hS (lv_sub hl [0] rfl)
    · replace hf := xsBr_f c138 hf
      refine lv_aload_n hx hb dX11_blame_10 rfl (lv_at hl 0 rfl) ?_
      refine xg_X11_103 C hP dX11_blame_11 ?_
      refine lv_iload_n hx hb dX11_blame_14 rfl (lv_at hl 1 rfl) ?_
      refine lv_iconst (v := (0 : Int32)) hx hb dX11_blame_15 (by decide) ?_
      replace hf := xsCk_use hf
      obtain ⟨h127, hf⟩ := hf
      refine xs_mMeets C hP hD hS h127 dX11_blame_16 (fun f128 ef128 H locs hP hD hS => ?_)
      replace hf := xsLt_use ef128 hf
      refine lv_iconst (v := (0 : Int32)) hx hb dX11_blame_17 (by decide) ?_
      refine lv_istore_n (lv' := [(2, .int (0 : Int32)), (0, .ref (xsA X 100)), (1, .int y1)]) hx hb dX11_blame_18 rfl hl (by decide) rfl (fun ls hl => ?_)
      have K131 : ∀ (y132 : Nat → Int32) (hf : fX11_blame_J43 y1 f128 y132 = some u4) (H : Heap) (locs : List Loc) (ls : Array Slot), va_P (xsD X) vwCl (wM X mThrown mWorld mImage mDraft mEarlier mRemembered mHasImage mIsLaid mOne mTwo mShare mX mY mD mEventX mEventY mEventD mEvents mCrossingOf mBundle mEventOf mDegree mFrom mTo mCrossings mEdges mMet mUpper mLower mTape mTaped mPoint mEnd mBegin mFaultAt mFive mTold mActs mFar mViews mHullX mHullY mEndX mEndY mHeightUp mHeightLow f128 y132 Rw) H → va_D (xsF X) (wM X mThrown mWorld mImage mDraft mEarlier mRemembered mHasImage mIsLaid mOne mTwo mShare mX mY mD mEventX mEventY mEventD mEvents mCrossingOf mBundle mEventOf mDegree mFrom mTo mCrossings mEdges mMet mUpper mLower mTape mTaped mPoint mEnd mBegin mFaultAt mFive mTold mActs mFar mViews mHullX mHullY mEndX mEndY mHeightUp mHeightLow f128 y132 Rw) → va_S (xsF X) s.heap H locs → lv_has ls 6 [(0, .ref (xsA X 100)), (1, .int y1)] → W p l e { frames := 5, cells := 0, slots := 0, locals := 141 } s m ([.ref (xsA X 100)] : List Value).toArray below meth c H locs 0 0 (MQ below Qq ([.ref (xsA X 100)] : List Value).toArray s 0 0 (xsF X)) (F0 m 43 ls []) := by
        intro y132 hf H locs ls hP hD hS hl
        unfold fX11_blame_J43 at hf
        obtain ⟨x133, ex133⟩ : ∃ y : Int32, y = y1 + (1 : Int32) := ⟨_, rfl⟩
        replace hf := xsLt_use ex133 hf
        refine lv_iinc (v := x133) (lv' := [(1, .int x133), (0, .ref (xsA X 100))]) hx hb dX11_blame_43 hl (k := 1) rfl (by rw [ex133]; rfl) (by decide) rfl (fun ls hl => ?_)
        refine lv_goto (tgt := 2) hx hb dX11_blame_46 (by decide) ?_
        exact ih4 _ (Option.some.inj hf).symm hk4 H locs ls hP hD hS (lv_sub hl [1, 0] rfl)
      replace hf := xsBd_use hf
      obtain ⟨r131, hk1310, hf⟩ := hf
      have L131 : ∀ (sg : Int32 × (Nat → Int32)) (rg : (Nat → Int32)), xsWh (fun s131 => fX11_blame_L19 y1 s131.1 s131.2) sg = some rg → (fX11_blame_J43 y1 f128 rg = some u4 → ∀ (H : Heap) (locs : List Loc) (ls : Array Slot), va_P (xsD X) vwCl (wM X mThrown mWorld mImage mDraft mEarlier mRemembered mHasImage mIsLaid mOne mTwo mShare mX mY mD mEventX mEventY mEventD mEvents mCrossingOf mBundle mEventOf mDegree mFrom mTo mCrossings mEdges mMet mUpper mLower mTape mTaped mPoint mEnd mBegin mFaultAt mFive mTold mActs mFar mViews mHullX mHullY mEndX mEndY mHeightUp mHeightLow f128 sg.2 Rw) H → va_D (xsF X) (wM X mThrown mWorld mImage mDraft mEarlier mRemembered mHasImage mIsLaid mOne mTwo mShare mX mY mD mEventX mEventY mEventD mEvents mCrossingOf mBundle mEventOf mDegree mFrom mTo mCrossings mEdges mMet mUpper mLower mTape mTaped mPoint mEnd mBegin mFaultAt mFive mTold mActs mFar mViews mHullX mHullY mEndX mEndY mHeightUp mHeightLow f128 sg.2 Rw) → va_S (xsF X) s.heap H locs → lv_has ls 6 [(0, .ref (xsA X 100)), (1, .int y1), (2, .int sg.1)] → W p l e { frames := 5, cells := 0, slots := 0, locals := 141 } s m ([.ref (xsA X 100)] : List Value).toArray below meth c H locs 0 0 (MQ below Qq ([.ref (xsA X 100)] : List Value).toArray s 0 0 (xsF X)) (F0 m 19 ls [])) := by
        refine xsWh_ind ?_
        intro sg r131 u131 hf ih131 hx131 hk131 H locs ls hP hD hS hl
        obtain ⟨y129, y130⟩ := sg
        replace hf : fX11_blame_L19 y1 y129 y130 = some u131 := hf
        replace hl : lv_has ls 6 [(0, .ref (xsA X 100)), (1, .int y1), (2, .int y129)] := hl
        replace hP : va_P (xsD X) vwCl (wM X mThrown mWorld mImage mDraft mEarlier mRemembered mHasImage mIsLaid mOne mTwo mShare mX mY mD mEventX mEventY mEventD mEvents mCrossingOf mBundle mEventOf mDegree mFrom mTo mCrossings mEdges mMet mUpper mLower mTape mTaped mPoint mEnd mBegin mFaultAt mFive mTold mActs mFar mViews mHullX mHullY mEndX mEndY mHeightUp mHeightLow f128 y130 Rw) H := hP
        replace hD : va_D (xsF X) (wM X mThrown mWorld mImage mDraft mEarlier mRemembered mHasImage mIsLaid mOne mTwo mShare mX mY mD mEventX mEventY mEventD mEvents mCrossingOf mBundle mEventOf mDegree mFrom mTo mCrossings mEdges mMet mUpper mLower mTape mTaped mPoint mEnd mBegin mFaultAt mFive mTold mActs mFar mViews mHullX mHullY mEndX mEndY mHeightUp mHeightLow f128 y130 Rw) := hD
        unfold fX11_blame_L19 at hf
        refine lv_iload_n hx hb dX11_blame_19 rfl (lv_at hl 2 rfl) ?_
        refine lv_bipush (v := (24 : Int32)) hx hb dX11_blame_20 (by decide) ?_
        refine lv_icmp_ge (tgt := 43) hx hb dX11_blame_22 (by decide) (fun c137 => ?_) (fun c137 => ?_)
        · replace hf := xsBr_t c137 hf
          have ez := hx131 _ (Option.some.inj hf).symm
          subst ez
          exact K131 y130 hk131 H locs ls hP hD hS (lv_sub hl [0, 1] rfl)
        · replace hf := xsBr_f c137 hf
          refine lv_aload_n hx hb dX11_blame_25 rfl (lv_at hl 0 rfl) ?_
          refine xg_X11_106 C hP dX11_blame_26 ?_
          refine lv_bipush (v := (24 : Int32)) hx hb dX11_blame_29 (by decide) ?_
          refine lv_iload_n hx hb dX11_blame_31 rfl (lv_at hl 1 rfl) ?_
          refine lv_imul hx hb dX11_blame_32 ?_
          refine lv_iload_n hx hb dX11_blame_33 rfl (lv_at hl 2 rfl) ?_
          refine lv_iadd hx hb dX11_blame_34 ?_
          refine lv_iconst (v := (0 : Int32)) hx hb dX11_blame_35 (by decide) ?_
          replace hf := xsCk_use hf
          obtain ⟨h134, hf⟩ := hf
          refine xs_mMeetsOf C hP hD hS h134 dX11_blame_36 (fun f135 ef135 H locs hP hD hS => ?_)
          replace hf := xsLt_use ef135 hf
          obtain ⟨x136, ex136⟩ : ∃ y : Int32, y = y129 + (1 : Int32) := ⟨_, rfl⟩
          replace hf := xsLt_use ex136 hf
          refine lv_iinc (v := x136) (lv' := [(2, .int x136), (0, .ref (xsA X 100)), (1, .int y1)]) hx hb dX11_blame_37 hl (k := 2) rfl (by rw [ex136]; rfl) (by decide) rfl (fun ls hl => ?_)
          refine lv_goto (tgt := 19) hx hb dX11_blame_40 (by decide) ?_
          exact ih131 _ (Option.some.inj hf).symm hk131 H locs ls hP hD hS (lv_sub hl [1, 2, 0] rfl)
      exact L131 ((0 : Int32), y3) r131 hk1310 hf H locs ls hP hD hS (lv_sub hl [1, 2, 0] rfl)
  exact L4 ((0 : Int32), mMeets, mMeetsOf) r4 hk40 hf H locs ls hP hD hS (lv_sub hl [1, 0] rfl)
set_option maxRecDepth 100000 in
set_option maxHeartbeats 8000000 in
theorem mX11_mostStatus (l : Launch) {X : xsX} {mThrown mRemembered mHasImage mIsLaid mEvents mCrossings mEdges mTaped mPoint mEnd mBegin mFaultAt mActs : Int32} {mWorld mImage mDraft mEarlier mOne mTwo mShare mCrossingOf mBundle mEventOf mDegree mFrom mTo mMet mTape mFive mTold mFar mViews mHullX mHullY mEndX mEndY mMeets mMeetsOf : Nat → Int32} {mX mY mD mHeightUp mHeightLow : Int64} {mEventX mEventY mEventD mUpper mLower : Nat → Int64} {Rw : va_W} {a0 : Int32} {out : Int32 × (Nat → Int32) × (Nat → Int64) × (Nat → Int64)} (hf : fX11_mostStatus mWorld mEventX mEventY mEventD mEvents mMet mUpper mLower a0 = some out) : Met l yX11_mostStatus (xsWs yX11_mostStatus cX11_mostStatus 6 (some .int)) { frames := 5, cells := 0, slots := 0, locals := 116 } (xsP X (wM X mThrown mWorld mImage mDraft mEarlier mRemembered mHasImage mIsLaid mOne mTwo mShare mX mY mD mEventX mEventY mEventD mEvents mCrossingOf mBundle mEventOf mDegree mFrom mTo mCrossings mEdges mMet mUpper mLower mTape mTaped mPoint mEnd mBegin mFaultAt mFive mTold mActs mFar mViews mHullX mHullY mEndX mEndY mHeightUp mHeightLow mMeets mMeetsOf Rw) [.ref (xsA X 100), .int a0]) (xsQi X out.1 (wM X mThrown mWorld mImage mDraft mEarlier mRemembered mHasImage mIsLaid mOne mTwo mShare mX mY mD mEventX mEventY mEventD mEvents mCrossingOf mBundle mEventOf mDegree mFrom mTo mCrossings mEdges out.2.1 out.2.2.1 out.2.2.2 mTape mTaped mPoint mEnd mBegin mFaultAt mFive mTold mActs mFar mViews mHullX mHullY mEndX mEndY mHeightUp mHeightLow mMeets mMeetsOf Rw)) 0 0 (xsF X) := by
  refine xs_meth RX11 (by decide) rfl (Nat.le_of_ble_eq_true rfl) ?_
  intro p e s m below meth c ls H locs C hP hD hS hr hlk hl
  have hx := C.1
  have hb := C.2.1
  have hl : lv_has ls 6 [(0, .ref (xsA X 100)), (1, .int a0)] := hl
  obtain ⟨Qq, hQq⟩ : ∃ Qq, Qq = xsQi X out.1 (wM X mThrown mWorld mImage mDraft mEarlier mRemembered mHasImage mIsLaid mOne mTwo mShare mX mY mD mEventX mEventY mEventD mEvents mCrossingOf mBundle mEventOf mDegree mFrom mTo mCrossings mEdges out.2.1 out.2.2.1 out.2.2.2 mTape mTaped mPoint mEnd mBegin mFaultAt mFive mTold mActs mFar mViews mHullX mHullY mEndX mEndY mHeightUp mHeightLow mMeets mMeetsOf Rw) := ⟨_, rfl⟩
  rw [← hQq]
  unfold fX11_mostStatus at hf
  refine lv_iconst (v := (-1 : Int32)) hx hb dX11_mostStatus_0 (by decide) ?_
  refine lv_istore_n (lv' := [(2, .int (-1 : Int32)), (0, .ref (xsA X 100)), (1, .int a0)]) hx hb dX11_mostStatus_1 rfl hl (by decide) rfl (fun ls hl => ?_)
  refine lv_iconst (v := (-1 : Int32)) hx hb dX11_mostStatus_2 (by decide) ?_
  refine lv_istore_n (lv' := [(3, .int (-1 : Int32)), (2, .int (-1 : Int32)), (0, .ref (xsA X 100)), (1, .int a0)]) hx hb dX11_mostStatus_3 rfl hl (by decide) rfl (fun ls hl => ?_)
  refine lv_iconst (v := (0 : Int32)) hx hb dX11_mostStatus_4 (by decide) ?_
  refine lv_istore (lv' := [(4, .int (0 : Int32)), (3, .int (-1 : Int32)), (2, .int (-1 : Int32)), (0, .ref (xsA X 100)), (1, .int a0)]) hx hb dX11_mostStatus_5 hl (by decide) rfl (fun ls hl => ?_)
  have K7 : ∀ (y8 : Int32) (y9 : Int32) (y10 : Nat → Int32) (y11 : Nat → Int64) (y12 : Nat → Int64) (hf : fX11_mostStatus_J45 a0 y8 y9 y10 y11 y12 = some out) (H : Heap) (locs : List Loc) (ls : Array Slot), va_P (xsD X) vwCl (wM X mThrown mWorld mImage mDraft mEarlier mRemembered mHasImage mIsLaid mOne mTwo mShare mX mY mD mEventX mEventY mEventD mEvents mCrossingOf mBundle mEventOf mDegree mFrom mTo mCrossings mEdges y10 y11 y12 mTape mTaped mPoint mEnd mBegin mFaultAt mFive mTold mActs mFar mViews mHullX mHullY mEndX mEndY mHeightUp mHeightLow mMeets mMeetsOf Rw) H → va_D (xsF X) (wM X mThrown mWorld mImage mDraft mEarlier mRemembered mHasImage mIsLaid mOne mTwo mShare mX mY mD mEventX mEventY mEventD mEvents mCrossingOf mBundle mEventOf mDegree mFrom mTo mCrossings mEdges y10 y11 y12 mTape mTaped mPoint mEnd mBegin mFaultAt mFive mTold mActs mFar mViews mHullX mHullY mEndX mEndY mHeightUp mHeightLow mMeets mMeetsOf Rw) → va_S (xsF X) s.heap H locs → lv_has ls 6 [(1, .int a0), (2, .int y8), (3, .int y9)] → W p l e { frames := 5, cells := 0, slots := 0, locals := 116 } s m ([.ref (xsA X 100), .int a0] : List Value).toArray below meth c H locs 0 0 (MQ below Qq ([.ref (xsA X 100), .int a0] : List Value).toArray s 0 0 (xsF X)) (F0 m 45 ls []) := by
    intro y8 y9 y10 y11 y12 hf H locs ls hP hD hS hl
    unfold fX11_mostStatus_J45 at hf
    refine lv_iload_n hx hb dX11_mostStatus_45 rfl (lv_at hl 0 rfl) ?_
    refine lv_if_eq (tgt := 53) hx hb dX11_mostStatus_46 (by decide) (fun c13 => ?_) (fun c13 => ?_)
    · replace hf := xsBr_t c13 hf
      refine lv_iconst (v := (0 : Int32)) hx hb dX11_mostStatus_53 (by decide) ?_
      refine lv_iload_n hx hb dX11_mostStatus_54 rfl (lv_at hl 2 rfl) ?_
      refine va_mmax hx hb (C.2.2.1.trans hl.1.symm) C.2.2.2.1 (xs_kts C _ w_1676) (xs_kts C _ w_697) (xs_kts C _ w_125) (xs_kts C _ w_698) (Nat.le_of_ble_eq_true rfl) (Nat.le_of_ble_eq_true rfl) (Nat.zero_le _) (Nat.zero_le _) dX11_mostStatus_55 ?_
      have ho := Option.some.inj hf
      subst ho
      rw [hQq]
      exact xs_iret C hr hlk hP hD hS dX11_mostStatus_58
    · replace hf := xsBr_f c13 hf
      refine lv_iload_n hx hb dX11_mostStatus_49 rfl (lv_at hl 1 rfl) ?_
      refine lv_goto (tgt := 58) hx hb dX11_mostStatus_50 (by decide) ?_
      have ho := Option.some.inj hf
      subst ho
      rw [hQq]
      exact xs_iret C hr hlk hP hD hS dX11_mostStatus_58
  replace hf := xsBd_use hf
  obtain ⟨r7, hk70, hf⟩ := hf
  have L7 : ∀ (sg : Int32 × Int32 × Int32 × (Nat → Int32) × (Nat → Int64) × (Nat → Int64)) (rg : Int32 × Int32 × (Nat → Int32) × (Nat → Int64) × (Nat → Int64)), xsWh (fun s7 => fX11_mostStatus_L7 mWorld mEventX mEventY mEventD mEvents s7.1 s7.2.1 s7.2.2.1 s7.2.2.2.1 s7.2.2.2.2.1 s7.2.2.2.2.2) sg = some rg → (fX11_mostStatus_J45 a0 rg.1 rg.2.1 rg.2.2.1 rg.2.2.2.1 rg.2.2.2.2 = some out → ∀ (H : Heap) (locs : List Loc) (ls : Array Slot), va_P (xsD X) vwCl (wM X mThrown mWorld mImage mDraft mEarlier mRemembered mHasImage mIsLaid mOne mTwo mShare mX mY mD mEventX mEventY mEventD mEvents mCrossingOf mBundle mEventOf mDegree mFrom mTo mCrossings mEdges sg.2.2.2.1 sg.2.2.2.2.1 sg.2.2.2.2.2 mTape mTaped mPoint mEnd mBegin mFaultAt mFive mTold mActs mFar mViews mHullX mHullY mEndX mEndY mHeightUp mHeightLow mMeets mMeetsOf Rw) H → va_D (xsF X) (wM X mThrown mWorld mImage mDraft mEarlier mRemembered mHasImage mIsLaid mOne mTwo mShare mX mY mD mEventX mEventY mEventD mEvents mCrossingOf mBundle mEventOf mDegree mFrom mTo mCrossings mEdges sg.2.2.2.1 sg.2.2.2.2.1 sg.2.2.2.2.2 mTape mTaped mPoint mEnd mBegin mFaultAt mFive mTold mActs mFar mViews mHullX mHullY mEndX mEndY mHeightUp mHeightLow mMeets mMeetsOf Rw) → va_S (xsF X) s.heap H locs → lv_has ls 6 [(0, .ref (xsA X 100)), (1, .int a0), (2, .int sg.1), (3, .int sg.2.1), (4, .int sg.2.2.1)] → W p l e { frames := 5, cells := 0, slots := 0, locals := 116 } s m ([.ref (xsA X 100), .int a0] : List Value).toArray below meth c H locs 0 0 (MQ below Qq ([.ref (xsA X 100), .int a0] : List Value).toArray s 0 0 (xsF X)) (F0 m 7 ls [])) := by
    refine xsWh_ind ?_
    intro sg r7 u7 hf ih7 hx7 hk7 H locs ls hP hD hS hl
    obtain ⟨y1, y2, y3, y4, y5, y6⟩ := sg
    replace hf : fX11_mostStatus_L7 mWorld mEventX mEventY mEventD mEvents y1 y2 y3 y4 y5 y6 = some u7 := hf
    replace hl : lv_has ls 6 [(0, .ref (xsA X 100)), (1, .int a0), (2, .int y1), (3, .int y2), (4, .int y3)] := hl
    replace hP : va_P (xsD X) vwCl (wM X mThrown mWorld mImage mDraft mEarlier mRemembered mHasImage mIsLaid mOne mTwo mShare mX mY mD mEventX mEventY mEventD mEvents mCrossingOf mBundle mEventOf mDegree mFrom mTo mCrossings mEdges y4 y5 y6 mTape mTaped mPoint mEnd mBegin mFaultAt mFive mTold mActs mFar mViews mHullX mHullY mEndX mEndY mHeightUp mHeightLow mMeets mMeetsOf Rw) H := hP
    replace hD : va_D (xsF X) (wM X mThrown mWorld mImage mDraft mEarlier mRemembered mHasImage mIsLaid mOne mTwo mShare mX mY mD mEventX mEventY mEventD mEvents mCrossingOf mBundle mEventOf mDegree mFrom mTo mCrossings mEdges y4 y5 y6 mTape mTaped mPoint mEnd mBegin mFaultAt mFive mTold mActs mFar mViews mHullX mHullY mEndX mEndY mHeightUp mHeightLow mMeets mMeetsOf Rw) := hD
    unfold fX11_mostStatus_L7 at hf
    refine lv_iload hx hb dX11_mostStatus_7 (lv_at hl 4 rfl) ?_
    refine lv_aload_n hx hb dX11_mostStatus_9 rfl (lv_at hl 0 rfl) ?_
    refine xg_X11_193 C hP dX11_mostStatus_10 ?_
    refine lv_icmp_ge (tgt := 45) hx hb dX11_mostStatus_13 (by decide) (fun c23 => ?_) (fun c23 => ?_)
    · replace hf := xsBr_t c23 hf
      have ez := hx7 _ (Option.some.inj hf).symm
      subst ez
      exact K7 y1 y2 y4 y5 y6 hk7 H locs ls hP hD hS (lv_sub hl [1, 2, 3] rfl)
    · replace hf := xsBr_f c23 hf
      refine lv_aload_n hx hb dX11_mostStatus_16 rfl (lv_at hl 0 rfl) ?_
      refine lv_iload hx hb dX11_mostStatus_17 (lv_at hl 4 rfl) ?_
      replace hf := xsBd_use hf
      obtain ⟨o14, h15, hf⟩ := hf
      refine xs_calli hS (xs_runV (As := [.int y3]) C (mX11_laysStatus l  h15) w_1823 w_1825 w_82 w_115 w_1826 hd_X11_laysStatus ⟨rfl, rfl, Nat.le_of_ble_eq_true rfl, Nat.le_of_ble_eq_true rfl, Nat.zero_le _, Nat.zero_le _⟩ hP hD hS lk_X11 rfl hl.1 rfl (Nat.le_of_ble_eq_true rfl) dX11_mostStatus_19) (fun H locs hP hD hS => ?_)
      refine lv_istore (lv' := [(5, .int o14.1), (0, .ref (xsA X 100)), (1, .int a0), (2, .int y1), (3, .int y2), (4, .int y3)]) hx hb dX11_mostStatus_22 hl (by decide) rfl (fun ls hl => ?_)
      refine lv_iload hx hb dX11_mostStatus_24 (lv_at hl 0 rfl) ?_
      refine lv_iload_n hx hb dX11_mostStatus_26 rfl (lv_at hl 4 rfl) ?_
      have K21 : ∀ (y16 : Int32) (y17 : Int32) (hf : fX11_mostStatus_J39 y3 o14 y16 y17 = some u7) (H : Heap) (locs : List Loc) (ls : Array Slot), va_P (xsD X) vwCl (wM X mThrown mWorld mImage mDraft mEarlier mRemembered mHasImage mIsLaid mOne mTwo mShare mX mY mD mEventX mEventY mEventD mEvents mCrossingOf mBundle mEventOf mDegree mFrom mTo mCrossings mEdges o14.2.1 o14.2.2.1 o14.2.2.2 mTape mTaped mPoint mEnd mBegin mFaultAt mFive mTold mActs mFar mViews mHullX mHullY mEndX mEndY mHeightUp mHeightLow mMeets mMeetsOf Rw) H → va_D (xsF X) (wM X mThrown mWorld mImage mDraft mEarlier mRemembered mHasImage mIsLaid mOne mTwo mShare mX mY mD mEventX mEventY mEventD mEvents mCrossingOf mBundle mEventOf mDegree mFrom mTo mCrossings mEdges o14.2.1 o14.2.2.1 o14.2.2.2 mTape mTaped mPoint mEnd mBegin mFaultAt mFive mTold mActs mFar mViews mHullX mHullY mEndX mEndY mHeightUp mHeightLow mMeets mMeetsOf Rw) → va_S (xsF X) s.heap H locs → lv_has ls 6 [(0, .ref (xsA X 100)), (1, .int a0), (2, .int y16), (3, .int y17), (4, .int y3)] → W p l e { frames := 5, cells := 0, slots := 0, locals := 116 } s m ([.ref (xsA X 100), .int a0] : List Value).toArray below meth c H locs 0 0 (MQ below Qq ([.ref (xsA X 100), .int a0] : List Value).toArray s 0 0 (xsF X)) (F0 m 39 ls []) := by
        intro y16 y17 hf H locs ls hP hD hS hl
        unfold fX11_mostStatus_J39 at hf
        obtain ⟨x18, ex18⟩ : ∃ y : Int32, y = y3 + (1 : Int32) := ⟨_, rfl⟩
        replace hf := xsLt_use ex18 hf
        refine lv_iinc (v := x18) (lv' := [(4, .int x18), (0, .ref (xsA X 100)), (1, .int a0), (2, .int y16), (3, .int y17)]) hx hb dX11_mostStatus_39 hl (k := 4) rfl (by rw [ex18]; rfl) (by decide) rfl (fun ls hl => ?_)
        refine lv_goto (tgt := 7) hx hb dX11_mostStatus_42 (by decide) ?_
        exact ih7 _ (Option.some.inj hf).symm hk7 H locs ls hP hD hS (lv_sub hl [1, 2, 3, 4, 0] rfl)
      replace hf := xsBd_use hf
      obtain ⟨v19, hf, hk20⟩ := hf
      refine lv_icmp_gt (tgt := 33) hx hb dX11_mostStatus_27 (by decide) (fun c22 => ?_) (fun c22 => ?_)
      · replace hf := xsBr_t c22 hf
        refine lv_iload hx hb dX11_mostStatus_33 (lv_at hl 0 rfl) ?_
        refine lv_istore_n (lv' := [(3, .int o14.1), (5, .int o14.1), (0, .ref (xsA X 100)), (1, .int a0), (2, .int y1), (4, .int y3)]) hx hb dX11_mostStatus_35 rfl hl (by decide) rfl (fun ls hl => ?_)
        refine lv_iload hx hb dX11_mostStatus_36 (lv_at hl 5 rfl) ?_
        refine lv_istore_n (lv' := [(2, .int y3), (3, .int o14.1), (5, .int o14.1), (0, .ref (xsA X 100)), (1, .int a0), (4, .int y3)]) hx hb dX11_mostStatus_38 rfl hl (by decide) rfl (fun ls hl => ?_)
        have ev := Option.some.inj hf
        subst ev
        exact K21 y3 o14.1 hk20 H locs ls hP hD hS (lv_sub hl [3, 4, 0, 1, 5] rfl)
      · replace hf := xsBr_f c22 hf
        refine lv_goto (tgt := 39) hx hb dX11_mostStatus_30 (by decide) ?_
        have ev := Option.some.inj hf
        subst ev
        exact K21 y1 y2 hk20 H locs ls hP hD hS (lv_sub hl [1, 2, 3, 4, 5] rfl)
  exact L7 ((-1 : Int32), (-1 : Int32), (0 : Int32), mMet, mUpper, mLower) r7 hk70 hf H locs ls hP hD hS (lv_sub hl [3, 4, 2, 1, 0] rfl)
set_option maxRecDepth 100000 in
set_option maxHeartbeats 8000000 in
theorem mX11_odd (l : Launch) {X : xsX} {mThrown mRemembered mHasImage mIsLaid mEvents mCrossings mEdges mTaped mPoint mEnd mBegin mFaultAt mActs : Int32} {mWorld mImage mDraft mEarlier mOne mTwo mShare mCrossingOf mBundle mEventOf mDegree mFrom mTo mMet mTape mFive mTold mFar mViews mHullX mHullY mEndX mEndY mMeets mMeetsOf : Nat → Int32} {mX mY mD mHeightUp mHeightLow : Int64} {mEventX mEventY mEventD mUpper mLower : Nat → Int64} {Rw : va_W} {out : Int32} (hf : fX11_odd mEvents mDegree = some out) : Met l yX11_odd (xsWs yX11_odd cX11_odd 3 (some .int)) { frames := 0, cells := 0, slots := 0, locals := 0 } (xsP X (wM X mThrown mWorld mImage mDraft mEarlier mRemembered mHasImage mIsLaid mOne mTwo mShare mX mY mD mEventX mEventY mEventD mEvents mCrossingOf mBundle mEventOf mDegree mFrom mTo mCrossings mEdges mMet mUpper mLower mTape mTaped mPoint mEnd mBegin mFaultAt mFive mTold mActs mFar mViews mHullX mHullY mEndX mEndY mHeightUp mHeightLow mMeets mMeetsOf Rw) [.ref (xsA X 100)]) (xsQi X out (wM X mThrown mWorld mImage mDraft mEarlier mRemembered mHasImage mIsLaid mOne mTwo mShare mX mY mD mEventX mEventY mEventD mEvents mCrossingOf mBundle mEventOf mDegree mFrom mTo mCrossings mEdges mMet mUpper mLower mTape mTaped mPoint mEnd mBegin mFaultAt mFive mTold mActs mFar mViews mHullX mHullY mEndX mEndY mHeightUp mHeightLow mMeets mMeetsOf Rw)) 0 0 (xsF X) := by
  refine xs_meth RX11 (by decide) rfl (Nat.le_of_ble_eq_true rfl) ?_
  intro p e s m below meth c ls H locs C hP hD hS hr hlk hl
  have hx := C.1
  have hb := C.2.1
  have hl : lv_has ls 3 [(0, .ref (xsA X 100))] := hl
  obtain ⟨Qq, hQq⟩ : ∃ Qq, Qq = xsQi X out (wM X mThrown mWorld mImage mDraft mEarlier mRemembered mHasImage mIsLaid mOne mTwo mShare mX mY mD mEventX mEventY mEventD mEvents mCrossingOf mBundle mEventOf mDegree mFrom mTo mCrossings mEdges mMet mUpper mLower mTape mTaped mPoint mEnd mBegin mFaultAt mFive mTold mActs mFar mViews mHullX mHullY mEndX mEndY mHeightUp mHeightLow mMeets mMeetsOf Rw) := ⟨_, rfl⟩
  rw [← hQq]
  unfold fX11_odd at hf
  refine lv_iconst (v := (0 : Int32)) hx hb dX11_odd_0 (by decide) ?_
  refine lv_istore_n (lv' := [(1, .int (0 : Int32)), (0, .ref (xsA X 100))]) hx hb dX11_odd_1 rfl hl (by decide) rfl (fun ls hl => ?_)
  refine lv_iconst (v := (0 : Int32)) hx hb dX11_odd_2 (by decide) ?_
  refine lv_istore_n (lv' := [(2, .int (0 : Int32)), (1, .int (0 : Int32)), (0, .ref (xsA X 100))]) hx hb dX11_odd_3 rfl hl (by decide) rfl (fun ls hl => ?_)
  have K3 : ∀ (y4 : Int32) (hf : fX11_odd_J29 y4 = some out) (H : Heap) (locs : List Loc) (ls : Array Slot), va_P (xsD X) vwCl (wM X mThrown mWorld mImage mDraft mEarlier mRemembered mHasImage mIsLaid mOne mTwo mShare mX mY mD mEventX mEventY mEventD mEvents mCrossingOf mBundle mEventOf mDegree mFrom mTo mCrossings mEdges mMet mUpper mLower mTape mTaped mPoint mEnd mBegin mFaultAt mFive mTold mActs mFar mViews mHullX mHullY mEndX mEndY mHeightUp mHeightLow mMeets mMeetsOf Rw) H → va_D (xsF X) (wM X mThrown mWorld mImage mDraft mEarlier mRemembered mHasImage mIsLaid mOne mTwo mShare mX mY mD mEventX mEventY mEventD mEvents mCrossingOf mBundle mEventOf mDegree mFrom mTo mCrossings mEdges mMet mUpper mLower mTape mTaped mPoint mEnd mBegin mFaultAt mFive mTold mActs mFar mViews mHullX mHullY mEndX mEndY mHeightUp mHeightLow mMeets mMeetsOf Rw) → va_S (xsF X) s.heap H locs → lv_has ls 3 [(1, .int y4)] → W p l e { frames := 0, cells := 0, slots := 0, locals := 0 } s m ([.ref (xsA X 100)] : List Value).toArray below meth c H locs 0 0 (MQ below Qq ([.ref (xsA X 100)] : List Value).toArray s 0 0 (xsF X)) (F0 m 29 ls []) := by
    intro y4 hf H locs ls hP hD hS hl
    unfold fX11_odd_J29 at hf
    refine lv_iload_n hx hb dX11_odd_29 rfl (lv_at hl 0 rfl) ?_
    have ho := Option.some.inj hf
    subst ho
    rw [hQq]
    exact xs_iret C hr hlk hP hD hS dX11_odd_30
  replace hf := xsBd_use hf
  obtain ⟨r3, hk30, hf⟩ := hf
  have L3 : ∀ (sg : Int32 × Int32) (rg : Int32), xsWh (fun s3 => fX11_odd_L4 mEvents mDegree s3.1 s3.2) sg = some rg → (fX11_odd_J29 rg = some out → ∀ (H : Heap) (locs : List Loc) (ls : Array Slot), va_P (xsD X) vwCl (wM X mThrown mWorld mImage mDraft mEarlier mRemembered mHasImage mIsLaid mOne mTwo mShare mX mY mD mEventX mEventY mEventD mEvents mCrossingOf mBundle mEventOf mDegree mFrom mTo mCrossings mEdges mMet mUpper mLower mTape mTaped mPoint mEnd mBegin mFaultAt mFive mTold mActs mFar mViews mHullX mHullY mEndX mEndY mHeightUp mHeightLow mMeets mMeetsOf Rw) H → va_D (xsF X) (wM X mThrown mWorld mImage mDraft mEarlier mRemembered mHasImage mIsLaid mOne mTwo mShare mX mY mD mEventX mEventY mEventD mEvents mCrossingOf mBundle mEventOf mDegree mFrom mTo mCrossings mEdges mMet mUpper mLower mTape mTaped mPoint mEnd mBegin mFaultAt mFive mTold mActs mFar mViews mHullX mHullY mEndX mEndY mHeightUp mHeightLow mMeets mMeetsOf Rw) → va_S (xsF X) s.heap H locs → lv_has ls 3 [(0, .ref (xsA X 100)), (1, .int sg.1), (2, .int sg.2)] → W p l e { frames := 0, cells := 0, slots := 0, locals := 0 } s m ([.ref (xsA X 100)] : List Value).toArray below meth c H locs 0 0 (MQ below Qq ([.ref (xsA X 100)] : List Value).toArray s 0 0 (xsF X)) (F0 m 4 ls [])) := by
    refine xsWh_ind ?_
    intro sg r3 u3 hf ih3 hx3 hk3 H locs ls hP hD hS hl
    obtain ⟨y1, y2⟩ := sg
    replace hf : fX11_odd_L4 mEvents mDegree y1 y2 = some u3 := hf
    replace hl : lv_has ls 3 [(0, .ref (xsA X 100)), (1, .int y1), (2, .int y2)] := hl
    replace hP : va_P (xsD X) vwCl (wM X mThrown mWorld mImage mDraft mEarlier mRemembered mHasImage mIsLaid mOne mTwo mShare mX mY mD mEventX mEventY mEventD mEvents mCrossingOf mBundle mEventOf mDegree mFrom mTo mCrossings mEdges mMet mUpper mLower mTape mTaped mPoint mEnd mBegin mFaultAt mFive mTold mActs mFar mViews mHullX mHullY mEndX mEndY mHeightUp mHeightLow mMeets mMeetsOf Rw) H := hP
    replace hD : va_D (xsF X) (wM X mThrown mWorld mImage mDraft mEarlier mRemembered mHasImage mIsLaid mOne mTwo mShare mX mY mD mEventX mEventY mEventD mEvents mCrossingOf mBundle mEventOf mDegree mFrom mTo mCrossings mEdges mMet mUpper mLower mTape mTaped mPoint mEnd mBegin mFaultAt mFive mTold mActs mFar mViews mHullX mHullY mEndX mEndY mHeightUp mHeightLow mMeets mMeetsOf Rw) := hD
    unfold fX11_odd_L4 at hf
    refine lv_iload_n hx hb dX11_odd_4 rfl (lv_at hl 2 rfl) ?_
    refine lv_aload_n hx hb dX11_odd_5 rfl (lv_at hl 0 rfl) ?_
    refine xg_X11_193 C hP dX11_odd_6 ?_
    refine lv_icmp_ge (tgt := 29) hx hb dX11_odd_9 (by decide) (fun c9 => ?_) (fun c9 => ?_)
    · replace hf := xsBr_t c9 hf
      have ez := hx3 _ (Option.some.inj hf).symm
      subst ez
      exact K3 y1 hk3 H locs ls hP hD hS (lv_sub hl [1] rfl)
    · replace hf := xsBr_f c9 hf
      refine lv_iload_n hx hb dX11_odd_12 rfl (lv_at hl 1 rfl) ?_
      refine lv_aload_n hx hb dX11_odd_13 rfl (lv_at hl 0 rfl) ?_
      refine xg_X11_54 C hP dX11_odd_14 ?_
      refine lv_iload_n hx hb dX11_odd_17 rfl (lv_at hl 2 rfl) ?_
      replace hf := xsCk_use hf
      obtain ⟨h5, hf⟩ := hf
      refine xl_mDegree C hP h5 dX11_odd_18 ?_
      refine lv_iconst (v := (2 : Int32)) hx hb dX11_odd_19 (by decide) ?_
      replace hf := xsCk_use hf
      obtain ⟨h6, hf⟩ := hf
      refine lv_irem hx hb dX11_odd_20 h6 ?_
      refine lv_iadd hx hb dX11_odd_21 ?_
      refine lv_topi (fun x7 ex7 => ?_)
      replace hf := xsLt_use ex7 hf
      refine lv_istore_n (lv' := [(1, .int x7), (0, .ref (xsA X 100)), (2, .int y2)]) hx hb dX11_odd_22 rfl hl (by decide) rfl (fun ls hl => ?_)
      obtain ⟨x8, ex8⟩ : ∃ y : Int32, y = y2 + (1 : Int32) := ⟨_, rfl⟩
      replace hf := xsLt_use ex8 hf
      refine lv_iinc (v := x8) (lv' := [(2, .int x8), (1, .int x7), (0, .ref (xsA X 100))]) hx hb dX11_odd_23 hl (k := 2) rfl (by rw [ex8]; rfl) (by decide) rfl (fun ls hl => ?_)
      refine lv_goto (tgt := 4) hx hb dX11_odd_26 (by decide) ?_
      exact ih3 _ (Option.some.inj hf).symm hk3 H locs ls hP hD hS (lv_sub hl [2, 1, 0] rfl)
  exact L3 ((0 : Int32), (0 : Int32)) r3 hk30 hf H locs ls hP hD hS (lv_sub hl [2, 1, 0] rfl)
