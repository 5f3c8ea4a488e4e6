set_option maxRecDepth 100000 in
set_option maxHeartbeats 8000000 in
theorem mX11_fault (l : Launch) {X : xsX} {mThrown mRemembered mHasImage mIsLaid mEvents mCrossings mEdges mTaped mPoint mEnd mBegin mFaultAt mActs : Int32} {mWorld mImage mDraft mEarlier mOne mTwo mShare mCrossingOf mBundle mEventOf mDegree mFrom mTo mMet mTape mFive mTold mFar mViews mHullX mHullY mEndX mEndY mMeets mMeetsOf : Nat → Int32} {mX mY mD mHeightUp mHeightLow : Int64} {mEventX mEventY mEventD mUpper mLower : Nat → Int64} {Rw : va_W} {out : Int32 × Int32} (hf : fX11_fault mThrown mFaultAt = some out) : Met l yX11_fault (xsWs yX11_fault cX11_fault 1 (some .int)) { frames := 0, cells := 0, slots := 0, locals := 0 } (xsP X (wM X mThrown mWorld mImage mDraft mEarlier mRemembered mHasImage mIsLaid mOne mTwo mShare mX mY mD mEventX mEventY mEventD mEvents mCrossingOf mBundle mEventOf mDegree mFrom mTo mCrossings mEdges mMet mUpper mLower mTape mTaped mPoint mEnd mBegin mFaultAt mFive mTold mActs mFar mViews mHullX mHullY mEndX mEndY mHeightUp mHeightLow mMeets mMeetsOf Rw) [.ref (xsA X 100)]) (xsQi X out.1 (wM X out.2 mWorld mImage mDraft mEarlier mRemembered mHasImage mIsLaid mOne mTwo mShare mX mY mD mEventX mEventY mEventD mEvents mCrossingOf mBundle mEventOf mDegree mFrom mTo mCrossings mEdges mMet mUpper mLower mTape mTaped mPoint mEnd mBegin mFaultAt mFive mTold mActs mFar mViews mHullX mHullY mEndX mEndY mHeightUp mHeightLow mMeets mMeetsOf Rw)) 0 0 (xsF X) := by
  refine xs_meth RX11 (by decide) rfl (Nat.le_of_ble_eq_true rfl) ?_
  intro p e s m below meth c ls H locs C hP hD hS hr hlk hl
  have hx := C.1
  have hb := C.2.1
  have hl : lv_has ls 1 [(0, .ref (xsA X 100))] := hl
  obtain ⟨Qq, hQq⟩ : ∃ Qq, Qq = xsQi X out.1 (wM X out.2 mWorld mImage mDraft mEarlier mRemembered mHasImage mIsLaid mOne mTwo mShare mX mY mD mEventX mEventY mEventD mEvents mCrossingOf mBundle mEventOf mDegree mFrom mTo mCrossings mEdges mMet mUpper mLower mTape mTaped mPoint mEnd mBegin mFaultAt mFive mTold mActs mFar mViews mHullX mHullY mEndX mEndY mHeightUp mHeightLow mMeets mMeetsOf Rw) := ⟨_, rfl⟩
  rw [← hQq]
  unfold fX11_fault at hf
  refine lv_aload_n hx hb dX11_fault_0 rfl (lv_at hl 0 rfl) ?_
  refine lv_iconst (v := (0 : Int32)) hx hb dX11_fault_1 (by decide) ?_
  refine xp_X11_3 C hP hD hS dX11_fault_2 (fun H locs hP hD hS => ?_)
  refine lv_aload_n hx hb dX11_fault_5 rfl (lv_at hl 0 rfl) ?_
  refine xg_X11_76 C hP dX11_fault_6 ?_
  have ho := Option.some.inj hf
  subst ho
  rw [hQq]
  exact xs_iret C hr hlk hP hD hS dX11_fault_9
set_option maxRecDepth 100000 in
set_option maxHeartbeats 8000000 in
theorem mX11_isAt (l : Launch) {X : xsX} {mThrown mRemembered mHasImage mIsLaid mEvents mCrossings mEdges mTaped mPoint mEnd mBegin mFaultAt mActs : Int32} {mWorld mImage mDraft mEarlier mOne mTwo mShare mCrossingOf mBundle mEventOf mDegree mFrom mTo mMet mTape mFive mTold mFar mViews mHullX mHullY mEndX mEndY mMeets mMeetsOf : Nat → Int32} {mX mY mD mHeightUp mHeightLow : Int64} {mEventX mEventY mEventD mUpper mLower : Nat → Int64} {Rw : va_W} {a0 : Int32} {a1 : Int32} {out : Int32} (hf : fX11_isAt mTape mPoint mEnd a0 a1 = some out) : Met l yX11_isAt (xsWs yX11_isAt cX11_isAt 3 (some .boolean)) { frames := 0, cells := 0, slots := 0, locals := 0 } (xsP X (wM X mThrown mWorld mImage mDraft mEarlier mRemembered mHasImage mIsLaid mOne mTwo mShare mX mY mD mEventX mEventY mEventD mEvents mCrossingOf mBundle mEventOf mDegree mFrom mTo mCrossings mEdges mMet mUpper mLower mTape mTaped mPoint mEnd mBegin mFaultAt mFive mTold mActs mFar mViews mHullX mHullY mEndX mEndY mHeightUp mHeightLow mMeets mMeetsOf Rw) [.ref (xsA X 100), .int a0, .int a1]) (xsQi X out (wM X mThrown mWorld mImage mDraft mEarlier mRemembered mHasImage mIsLaid mOne mTwo mShare mX mY mD mEventX mEventY mEventD mEvents mCrossingOf mBundle mEventOf mDegree mFrom mTo mCrossings mEdges mMet mUpper mLower mTape mTaped mPoint mEnd mBegin mFaultAt mFive mTold mActs mFar mViews mHullX mHullY mEndX mEndY mHeightUp mHeightLow mMeets mMeetsOf Rw)) 0 0 (xsF X) := by
  refine xs_meth RX11 (by decide) rfl (Nat.le_of_ble_eq_true rfl) ?_
  intro p e s m below meth c ls H locs C hP hD hS hr hlk hl
  have hx := C.1
  have hb := C.2.1
  have hl : lv_has ls 3 [(0, .ref (xsA X 100)), (1, .int a0), (2, .int a1)] := hl
  obtain ⟨Qq, hQq⟩ : ∃ Qq, Qq = xsQi X out (wM X mThrown mWorld mImage mDraft mEarlier mRemembered mHasImage mIsLaid mOne mTwo mShare mX mY mD mEventX mEventY mEventD mEvents mCrossingOf mBundle mEventOf mDegree mFrom mTo mCrossings mEdges mMet mUpper mLower mTape mTaped mPoint mEnd mBegin mFaultAt mFive mTold mActs mFar mViews mHullX mHullY mEndX mEndY mHeightUp mHeightLow mMeets mMeetsOf Rw) := ⟨_, rfl⟩
  rw [← hQq]
  unfold fX11_isAt at hf
  refine lv_aload_n hx hb dX11_isAt_0 rfl (lv_at hl 0 rfl) ?_
  refine xg_X11_247 C hP dX11_isAt_1 ?_
  refine lv_aload_n hx hb dX11_isAt_4 rfl (lv_at hl 0 rfl) ?_
  refine xg_X11_250 C hP dX11_isAt_5 ?_
  refine lv_icmp_ge (tgt := 41) hx hb dX11_isAt_8 (by decide) (fun c5 => ?_) (fun c5 => ?_)
  · replace hf := xsBr_t c5 hf
    refine lv_iconst (v := (0 : Int32)) hx hb dX11_isAt_41 (by decide) ?_
    have ho := Option.some.inj hf
    subst ho
    rw [hQq]
    exact xs_zret C hr hlk xsB_0 hP hD hS dX11_isAt_42
  · replace hf := xsBr_f c5 hf
    refine lv_aload_n hx hb dX11_isAt_11 rfl (lv_at hl 0 rfl) ?_
    refine xg_X11_72 C hP dX11_isAt_12 ?_
    refine lv_aload_n hx hb dX11_isAt_15 rfl (lv_at hl 0 rfl) ?_
    refine xg_X11_247 C hP dX11_isAt_16 ?_
    replace hf := xsCk_use hf
    obtain ⟨h1, hf⟩ := hf
    refine xl_mTape C hP h1 dX11_isAt_19 ?_
    refine lv_iload_n hx hb dX11_isAt_20 rfl (lv_at hl 1 rfl) ?_
    refine lv_icmp_lt (tgt := 41) hx hb dX11_isAt_21 (by decide) (fun c4 => ?_) (fun c4 => ?_)
    · replace hf := xsBr_t c4 hf
      refine lv_iconst (v := (0 : Int32)) hx hb dX11_isAt_41 (by decide) ?_
      have ho := Option.some.inj hf
      subst ho
      rw [hQq]
      exact xs_zret C hr hlk xsB_0 hP hD hS dX11_isAt_42
    · replace hf := xsBr_f c4 hf
      refine lv_aload_n hx hb dX11_isAt_24 rfl (lv_at hl 0 rfl) ?_
      refine xg_X11_72 C hP dX11_isAt_25 ?_
      refine lv_aload_n hx hb dX11_isAt_28 rfl (lv_at hl 0 rfl) ?_
      refine xg_X11_247 C hP dX11_isAt_29 ?_
      replace hf := xsCk_use hf
      obtain ⟨h2, hf⟩ := hf
      refine xl_mTape C hP h2 dX11_isAt_32 ?_
      refine lv_iload_n hx hb dX11_isAt_33 rfl (lv_at hl 2 rfl) ?_
      refine lv_icmp_gt (tgt := 41) hx hb dX11_isAt_34 (by decide) (fun c3 => ?_) (fun c3 => ?_)
      · replace hf := xsBr_t c3 hf
        refine lv_iconst (v := (0 : Int32)) hx hb dX11_isAt_41 (by decide) ?_
        have ho := Option.some.inj hf
        subst ho
        rw [hQq]
        exact xs_zret C hr hlk xsB_0 hP hD hS dX11_isAt_42
      · replace hf := xsBr_f c3 hf
        refine lv_iconst (v := (1 : Int32)) hx hb dX11_isAt_37 (by decide) ?_
        refine lv_goto (tgt := 42) hx hb dX11_isAt_38 (by decide) ?_
        have ho := Option.some.inj hf
        subst ho
        rw [hQq]
        exact xs_zret C hr hlk xsB_1 hP hD hS dX11_isAt_42
set_option maxRecDepth 100000 in
set_option maxHeartbeats 8000000 in
theorem mX11_blanks (l : Launch) {X : xsX} {mThrown mRemembered mHasImage mIsLaid mEvents mCrossings mEdges mTaped mPoint mEnd mBegin mFaultAt mActs : Int32} {mWorld mImage mDraft mEarlier mOne mTwo mShare mCrossingOf mBundle mEventOf mDegree mFrom mTo mMet mTape mFive mTold mFar mViews mHullX mHullY mEndX mEndY mMeets mMeetsOf : Nat → Int32} {mX mY mD mHeightUp mHeightLow : Int64} {mEventX mEventY mEventD mUpper mLower : Nat → Int64} {Rw : va_W} {out : Int32 × Int32} (hf : fX11_blanks mTape mPoint mEnd mBegin = some out) : Met l yX11_blanks (xsWs yX11_blanks cX11_blanks 1 none) { frames := 1, cells := 0, slots := 0, locals := 22 } (xsP X (wM X mThrown mWorld mImage mDraft mEarlier mRemembered mHasImage mIsLaid mOne mTwo mShare mX mY mD mEventX mEventY mEventD mEvents mCrossingOf mBundle mEventOf mDegree mFrom mTo mCrossings mEdges mMet mUpper mLower mTape mTaped mPoint mEnd mBegin mFaultAt mFive mTold mActs mFar mViews mHullX mHullY mEndX mEndY mHeightUp mHeightLow mMeets mMeetsOf Rw) [.ref (xsA X 100)]) (xsQv X (wM X mThrown mWorld mImage mDraft mEarlier mRemembered mHasImage mIsLaid mOne mTwo mShare mX mY mD mEventX mEventY mEventD mEvents mCrossingOf mBundle mEventOf mDegree mFrom mTo mCrossings mEdges mMet mUpper mLower mTape mTaped out.1 mEnd out.2 mFaultAt mFive mTold mActs mFar mViews mHullX mHullY mEndX mEndY mHeightUp mHeightLow mMeets mMeetsOf Rw)) 0 0 (xsF X) := by
  refine xs_meth RX11 (by decide) rfl (Nat.le_of_ble_eq_true rfl) ?_
  intro p e s m below meth c ls H locs C hP hD hS hr hlk hl
  have hx := C.1
  have hb := C.2.1
  have hl : lv_has ls 1 [(0, .ref (xsA X 100))] := hl
  obtain ⟨Qq, hQq⟩ : ∃ Qq, Qq = xsQv X (wM X mThrown mWorld mImage mDraft mEarlier mRemembered mHasImage mIsLaid mOne mTwo mShare mX mY mD mEventX mEventY mEventD mEvents mCrossingOf mBundle mEventOf mDegree mFrom mTo mCrossings mEdges mMet mUpper mLower mTape mTaped out.1 mEnd out.2 mFaultAt mFive mTold mActs mFar mViews mHullX mHullY mEndX mEndY mHeightUp mHeightLow mMeets mMeetsOf Rw) := ⟨_, rfl⟩
  rw [← hQq]
  unfold fX11_blanks at hf
  have K2 : ∀ (y3 : Int32) (hf : fX11_blanks_J24 y3 = some out) (H : Heap) (locs : List Loc) (ls : Array Slot), va_P (xsD X) vwCl (wM X mThrown mWorld mImage mDraft mEarlier mRemembered mHasImage mIsLaid mOne mTwo mShare mX mY mD mEventX mEventY mEventD mEvents mCrossingOf mBundle mEventOf mDegree mFrom mTo mCrossings mEdges mMet mUpper mLower mTape mTaped y3 mEnd mBegin mFaultAt mFive mTold mActs mFar mViews mHullX mHullY mEndX mEndY mHeightUp mHeightLow mMeets mMeetsOf Rw) H → va_D (xsF X) (wM X mThrown mWorld mImage mDraft mEarlier mRemembered mHasImage mIsLaid mOne mTwo mShare mX mY mD mEventX mEventY mEventD mEvents mCrossingOf mBundle mEventOf mDegree mFrom mTo mCrossings mEdges mMet mUpper mLower mTape mTaped y3 mEnd mBegin mFaultAt mFive mTold mActs mFar mViews mHullX mHullY mEndX mEndY mHeightUp mHeightLow mMeets mMeetsOf Rw) → va_S (xsF X) s.heap H locs → lv_has ls 1 [(0, .ref (xsA X 100))] → W p l e { frames := 1, cells := 0, slots := 0, locals := 22 } s m ([.ref (xsA X 100)] : List Value).toArray below meth c H locs 0 0 (MQ below Qq ([.ref (xsA X 100)] : List Value).toArray s 0 0 (xsF X)) (F0 m 24 ls []) := by
    intro y3 hf H locs ls hP hD hS hl
    unfold fX11_blanks_J24 at hf
    refine lv_aload_n hx hb dX11_blanks_24 rfl (lv_at hl 0 rfl) ?_
    refine lv_aload_n hx hb dX11_blanks_25 rfl (lv_at hl 0 rfl) ?_
    refine xg_X11_247 C hP dX11_blanks_26 ?_
    refine xp_X11_256 C hP hD hS dX11_blanks_29 (fun H locs hP hD hS => ?_)
    have ho := Option.some.inj hf
    subst ho
    rw [hQq]
    exact xs_vret C hr hlk hP hD hS dX11_blanks_32
  replace hf := xsBd_use hf
  obtain ⟨r2, hk20, hf⟩ := hf
  have L2 : ∀ (sg : Int32) (rg : Int32), xsWh (fun s2 => fX11_blanks_L0 mTape mEnd s2) sg = some rg → (fX11_blanks_J24 rg = some out → ∀ (H : Heap) (locs : List Loc) (ls : Array Slot), va_P (xsD X) vwCl (wM X mThrown mWorld mImage mDraft mEarlier mRemembered mHasImage mIsLaid mOne mTwo mShare mX mY mD mEventX mEventY mEventD mEvents mCrossingOf mBundle mEventOf mDegree mFrom mTo mCrossings mEdges mMet mUpper mLower mTape mTaped sg mEnd mBegin mFaultAt mFive mTold mActs mFar mViews mHullX mHullY mEndX mEndY mHeightUp mHeightLow mMeets mMeetsOf Rw) H → va_D (xsF X) (wM X mThrown mWorld mImage mDraft mEarlier mRemembered mHasImage mIsLaid mOne mTwo mShare mX mY mD mEventX mEventY mEventD mEvents mCrossingOf mBundle mEventOf mDegree mFrom mTo mCrossings mEdges mMet mUpper mLower mTape mTaped sg mEnd mBegin mFaultAt mFive mTold mActs mFar mViews mHullX mHullY mEndX mEndY mHeightUp mHeightLow mMeets mMeetsOf Rw) → va_S (xsF X) s.heap H locs → lv_has ls 1 [(0, .ref (xsA X 100))] → W p l e { frames := 1, cells := 0, slots := 0, locals := 22 } s m ([.ref (xsA X 100)] : List Value).toArray below meth c H locs 0 0 (MQ below Qq ([.ref (xsA X 100)] : List Value).toArray s 0 0 (xsF X)) (F0 m 0 ls [])) := by
    refine xsWh_ind ?_
    intro sg r2 u2 hf ih2 hx2 hk2 H locs ls hP hD hS hl
    obtain ⟨y1, ey⟩ : ∃ z, z = sg := ⟨_, rfl⟩
    subst ey
    replace hf : fX11_blanks_L0 mTape mEnd y1 = some u2 := hf
    replace hl : lv_has ls 1 [(0, .ref (xsA X 100))] := hl
    replace hP : va_P (xsD X) vwCl (wM X mThrown mWorld mImage mDraft mEarlier mRemembered mHasImage mIsLaid mOne mTwo mShare mX mY mD mEventX mEventY mEventD mEvents mCrossingOf mBundle mEventOf mDegree mFrom mTo mCrossings mEdges mMet mUpper mLower mTape mTaped y1 mEnd mBegin mFaultAt mFive mTold mActs mFar mViews mHullX mHullY mEndX mEndY mHeightUp mHeightLow mMeets mMeetsOf Rw) H := hP
    replace hD : va_D (xsF X) (wM X mThrown mWorld mImage mDraft mEarlier mRemembered mHasImage mIsLaid mOne mTwo mShare mX mY mD mEventX mEventY mEventD mEvents mCrossingOf mBundle mEventOf mDegree mFrom mTo mCrossings mEdges mMet mUpper mLower mTape mTaped y1 mEnd mBegin mFaultAt mFive mTold mActs mFar mViews mHullX mHullY mEndX mEndY mHeightUp mHeightLow mMeets mMeetsOf Rw) := hD
    unfold fX11_blanks_L0 at hf
    refine lv_aload_n hx hb dX11_blanks_0 rfl (lv_at hl 0 rfl) ?_
    refine lv_bipush (v := (32 : Int32)) hx hb dX11_blanks_1 (by decide) ?_
    refine lv_bipush (v := (32 : Int32)) hx hb dX11_blanks_3 (by decide) ?_
    replace hf := xsBd_use hf
    obtain ⟨o4, h5, hf⟩ := hf
    refine xs_calli hS (xs_runV (As := [.int (32 : Int32), .int (32 : Int32)]) C (mX11_isAt l  h5) w_1541 w_1543 w_36 w_115 w_1544 hd_X11_isAt ⟨rfl, rfl, Nat.le_of_ble_eq_true rfl, Nat.le_of_ble_eq_true rfl, Nat.zero_le _, Nat.zero_le _⟩ hP hD hS lk_X11 rfl hl.1 rfl (Nat.le_of_ble_eq_true rfl) dX11_blanks_5) (fun H locs hP hD hS => ?_)
    refine lv_if_eq (tgt := 24) hx hb dX11_blanks_8 (by decide) (fun c7 => ?_) (fun c7 => ?_)
    · replace hf := xsBr_t c7 hf
      have ez := hx2 _ (Option.some.inj hf).symm
      subst ez
      exact K2 y1 hk2 H locs ls hP hD hS (lv_sub hl [0] rfl)
    · replace hf := xsBr_f c7 hf
      refine lv_aload_n hx hb dX11_blanks_11 rfl (lv_at hl 0 rfl) ?_
      refine lv_dup hx hb dX11_blanks_12 rfl ?_
      refine xg_X11_247 C hP dX11_blanks_13 ?_
      refine lv_iconst (v := (1 : Int32)) hx hb dX11_blanks_16 (by decide) ?_
      refine lv_iadd hx hb dX11_blanks_17 ?_
      refine lv_topi (fun x6 ex6 => ?_)
      replace hf := xsLt_use ex6 hf
      refine xp_X11_247 C hP hD hS dX11_blanks_18 (fun H locs hP hD hS => ?_)
      refine lv_goto (tgt := 0) hx hb dX11_blanks_21 (by decide) ?_
      exact ih2 _ (Option.some.inj hf).symm hk2 H locs ls hP hD hS (lv_sub hl [0] rfl)
  exact L2 mPoint r2 hk20 hf H locs ls hP hD hS (lv_sub hl [0] rfl)
set_option maxRecDepth 100000 in
set_option maxHeartbeats 8000000 in
theorem mX11_letters (l : Launch) {X : xsX} {mThrown mRemembered mHasImage mIsLaid mEvents mCrossings mEdges mTaped mPoint mEnd mBegin mFaultAt mActs : Int32} {mWorld mImage mDraft mEarlier mOne mTwo mShare mCrossingOf mBundle mEventOf mDegree mFrom mTo mMet mTape mFive mTold mFar mViews mHullX mHullY mEndX mEndY mMeets mMeetsOf : Nat → Int32} {mX mY mD mHeightUp mHeightLow : Int64} {mEventX mEventY mEventD mUpper mLower : Nat → Int64} {Rw : va_W} {out : Int32 × Int32} (hf : fX11_letters mTape mPoint mEnd mBegin = some out) : Met l yX11_letters (xsWs yX11_letters cX11_letters 1 none) { frames := 2, cells := 0, slots := 0, locals := 42 } (xsP X (wM X mThrown mWorld mImage mDraft mEarlier mRemembered mHasImage mIsLaid mOne mTwo mShare mX mY mD mEventX mEventY mEventD mEvents mCrossingOf mBundle mEventOf mDegree mFrom mTo mCrossings mEdges mMet mUpper mLower mTape mTaped mPoint mEnd mBegin mFaultAt mFive mTold mActs mFar mViews mHullX mHullY mEndX mEndY mHeightUp mHeightLow mMeets mMeetsOf Rw) [.ref (xsA X 100)]) (xsQv X (wM X mThrown mWorld mImage mDraft mEarlier mRemembered mHasImage mIsLaid mOne mTwo mShare mX mY mD mEventX mEventY mEventD mEvents mCrossingOf mBundle mEventOf mDegree mFrom mTo mCrossings mEdges mMet mUpper mLower mTape mTaped out.1 mEnd out.2 mFaultAt mFive mTold mActs mFar mViews mHullX mHullY mEndX mEndY mHeightUp mHeightLow mMeets mMeetsOf Rw)) 0 0 (xsF X) := by
  refine xs_meth RX11 (by decide) rfl (Nat.le_of_ble_eq_true rfl) ?_
  intro p e s m below meth c ls H locs C hP hD hS hr hlk hl
  have hx := C.1
  have hb := C.2.1
  have hl : lv_has ls 1 [(0, .ref (xsA X 100))] := hl
  obtain ⟨Qq, hQq⟩ : ∃ Qq, Qq = xsQv X (wM X mThrown mWorld mImage mDraft mEarlier mRemembered mHasImage mIsLaid mOne mTwo mShare mX mY mD mEventX mEventY mEventD mEvents mCrossingOf mBundle mEventOf mDegree mFrom mTo mCrossings mEdges mMet mUpper mLower mTape mTaped out.1 mEnd out.2 mFaultAt mFive mTold mActs mFar mViews mHullX mHullY mEndX mEndY mHeightUp mHeightLow mMeets mMeetsOf Rw) := ⟨_, rfl⟩
  rw [← hQq]
  unfold fX11_letters at hf
  refine lv_aload_n hx hb dX11_letters_0 rfl (lv_at hl 0 rfl) ?_
  replace hf := xsBd_use hf
  obtain ⟨o1, h2, hf⟩ := hf
  refine xs_callv hS (xs_runV (As := []) C (mX11_blanks l  h2) w_1537 w_1539 w_35 w_115 w_1540 hd_X11_blanks ⟨rfl, rfl, Nat.le_of_ble_eq_true rfl, Nat.le_of_ble_eq_true rfl, Nat.zero_le _, Nat.zero_le _⟩ hP hD hS lk_X11 rfl hl.1 rfl (Nat.le_of_ble_eq_true rfl) dX11_letters_1) (fun H locs hP hD hS => ?_)
  have K4 : ∀ (y5 : Int32) (hf : fX11_letters_J28 o1 y5 = some out) (H : Heap) (locs : List Loc) (ls : Array Slot), va_P (xsD X) vwCl (wM X mThrown mWorld mImage mDraft mEarlier mRemembered mHasImage mIsLaid mOne mTwo mShare mX mY mD mEventX mEventY mEventD mEvents mCrossingOf mBundle mEventOf mDegree mFrom mTo mCrossings mEdges mMet mUpper mLower mTape mTaped y5 mEnd o1.2 mFaultAt mFive mTold mActs mFar mViews mHullX mHullY mEndX mEndY mHeightUp mHeightLow mMeets mMeetsOf Rw) H → va_D (xsF X) (wM X mThrown mWorld mImage mDraft mEarlier mRemembered mHasImage mIsLaid mOne mTwo mShare mX mY mD mEventX mEventY mEventD mEvents mCrossingOf mBundle mEventOf mDegree mFrom mTo mCrossings mEdges mMet mUpper mLower mTape mTaped y5 mEnd o1.2 mFaultAt mFive mTold mActs mFar mViews mHullX mHullY mEndX mEndY mHeightUp mHeightLow mMeets mMeetsOf Rw) → va_S (xsF X) s.heap H locs → lv_has ls 1 [] → W p l e { frames := 2, cells := 0, slots := 0, locals := 42 } s m ([.ref (xsA X 100)] : List Value).toArray below meth c H locs 0 0 (MQ below Qq ([.ref (xsA X 100)] : List Value).toArray s 0 0 (xsF X)) (F0 m 28 ls []) := by
    intro y5 hf H locs ls hP hD hS hl
    unfold fX11_letters_J28 at hf
    have ho := Option.some.inj hf
    subst ho
    rw [hQq]
    exact xs_vret C hr hlk hP hD hS dX11_letters_28
  replace hf := xsBd_use hf
  obtain ⟨r4, hk40, hf⟩ := hf
  have L4 : ∀ (sg : Int32) (rg : Int32), xsWh (fun s4 => fX11_letters_L4 mTape mEnd s4) sg = some rg → (fX11_letters_J28 o1 rg = some out → ∀ (H : Heap) (locs : List Loc) (ls : Array Slot), va_P (xsD X) vwCl (wM X mThrown mWorld mImage mDraft mEarlier mRemembered mHasImage mIsLaid mOne mTwo mShare mX mY mD mEventX mEventY mEventD mEvents mCrossingOf mBundle mEventOf mDegree mFrom mTo mCrossings mEdges mMet mUpper mLower mTape mTaped sg mEnd o1.2 mFaultAt mFive mTold mActs mFar mViews mHullX mHullY mEndX mEndY mHeightUp mHeightLow mMeets mMeetsOf Rw) H → va_D (xsF X) (wM X mThrown mWorld mImage mDraft mEarlier mRemembered mHasImage mIsLaid mOne mTwo mShare mX mY mD mEventX mEventY mEventD mEvents mCrossingOf mBundle mEventOf mDegree mFrom mTo mCrossings mEdges mMet mUpper mLower mTape mTaped sg mEnd o1.2 mFaultAt mFive mTold mActs mFar mViews mHullX mHullY mEndX mEndY mHeightUp mHeightLow mMeets mMeetsOf Rw) → va_S (xsF X) s.heap H locs → lv_has ls 1 [(0, .ref (xsA X 100))] → W p l e { frames := 2, cells := 0, slots := 0, locals := 42 } s m ([.ref (xsA X 100)] : List Value).toArray below meth c H locs 0 0 (MQ below Qq ([.ref (xsA X 100)] : List Value).toArray s 0 0 (xsF X)) (F0 m 4 ls [])) := by
    refine xsWh_ind ?_
    intro sg r4 u4 hf ih4 hx4 hk4 H locs ls hP hD hS hl
    obtain ⟨y3, ey⟩ : ∃ z, z = sg := ⟨_, rfl⟩
    subst ey
    replace hf : fX11_letters_L4 mTape mEnd y3 = some u4 := hf
    replace hl : lv_has ls 1 [(0, .ref (xsA X 100))] := hl
    replace hP : va_P (xsD X) vwCl (wM X mThrown mWorld mImage mDraft mEarlier mRemembered mHasImage mIsLaid mOne mTwo mShare mX mY mD mEventX mEventY mEventD mEvents mCrossingOf mBundle mEventOf mDegree mFrom mTo mCrossings mEdges mMet mUpper mLower mTape mTaped y3 mEnd o1.2 mFaultAt mFive mTold mActs mFar mViews mHullX mHullY mEndX mEndY mHeightUp mHeightLow mMeets mMeetsOf Rw) H := hP
    replace hD : va_D (xsF X) (wM X mThrown mWorld mImage mDraft mEarlier mRemembered mHasImage mIsLaid mOne mTwo mShare mX mY mD mEventX mEventY mEventD mEvents mCrossingOf mBundle mEventOf mDegree mFrom mTo mCrossings mEdges mMet mUpper mLower mTape mTaped y3 mEnd o1.2 mFaultAt mFive mTold mActs mFar mViews mHullX mHullY mEndX mEndY mHeightUp mHeightLow mMeets mMeetsOf Rw) := hD
    unfold fX11_letters_L4 at hf
    refine lv_aload_n hx hb dX11_letters_4 rfl (lv_at hl 0 rfl) ?_
    refine lv_bipush (v := (97 : Int32)) hx hb dX11_letters_5 (by decide) ?_
    refine lv_bipush (v := (122 : Int32)) hx hb dX11_letters_7 (by decide) ?_
    replace hf := xsBd_use hf
    obtain ⟨o6, h7, hf⟩ := hf
    refine xs_calli hS (xs_runV (As := [.int (97 : Int32), .int (122 : Int32)]) C (mX11_isAt l  h7) w_1541 w_1543 w_36 w_115 w_1544 hd_X11_isAt ⟨rfl, rfl, Nat.le_of_ble_eq_true rfl, Nat.le_of_ble_eq_true rfl, Nat.zero_le _, Nat.zero_le _⟩ hP hD hS lk_X11 rfl hl.1 rfl (Nat.le_of_ble_eq_true rfl) dX11_letters_9) (fun H locs hP hD hS => ?_)
    refine lv_if_eq (tgt := 28) hx hb dX11_letters_12 (by decide) (fun c9 => ?_) (fun c9 => ?_)
    · replace hf := xsBr_t c9 hf
      have ez := hx4 _ (Option.some.inj hf).symm
      subst ez
      exact K4 y3 hk4 H locs ls hP hD hS (lv_sub hl [] rfl)
    · replace hf := xsBr_f c9 hf
      refine lv_aload_n hx hb dX11_letters_15 rfl (lv_at hl 0 rfl) ?_
      refine lv_dup hx hb dX11_letters_16 rfl ?_
      refine xg_X11_247 C hP dX11_letters_17 ?_
      refine lv_iconst (v := (1 : Int32)) hx hb dX11_letters_20 (by decide) ?_
      refine lv_iadd hx hb dX11_letters_21 ?_
      refine lv_topi (fun x8 ex8 => ?_)
      replace hf := xsLt_use ex8 hf
      refine xp_X11_247 C hP hD hS dX11_letters_22 (fun H locs hP hD hS => ?_)
      refine lv_goto (tgt := 4) hx hb dX11_letters_25 (by decide) ?_
      exact ih4 _ (Option.some.inj hf).symm hk4 H locs ls hP hD hS (lv_sub hl [0] rfl)
  exact L4 o1.1 r4 hk40 hf H locs ls hP hD hS (lv_sub hl [0] rfl)
set_option maxRecDepth 100000 in
set_option maxHeartbeats 8000000 in
theorem mX11_reads (l : Launch) {X : xsX} {mThrown mRemembered mHasImage mIsLaid mEvents mCrossings mEdges mTaped mPoint mEnd mBegin mFaultAt mActs : Int32} {mWorld mImage mDraft mEarlier mOne mTwo mShare mCrossingOf mBundle mEventOf mDegree mFrom mTo mMet mTape mFive mTold mFar mViews mHullX mHullY mEndX mEndY mMeets mMeetsOf : Nat → Int32} {mX mY mD mHeightUp mHeightLow : Int64} {mEventX mEventY mEventD mUpper mLower : Nat → Int64} {Rw : va_W} {a0 : Int32} {a1 : Int32} {a2 : Int32} {out : Int32 × Int32 × Int32 × (Nat → Int32)} (hf : fX11_reads mTape mPoint mEnd mBegin mTold a0 a1 a2 = some out) : Met l yX11_reads (xsWs yX11_reads cX11_reads 6 (some .boolean)) { frames := 2, cells := 0, slots := 0, locals := 42 } (xsP X (wM X mThrown mWorld mImage mDraft mEarlier mRemembered mHasImage mIsLaid mOne mTwo mShare mX mY mD mEventX mEventY mEventD mEvents mCrossingOf mBundle mEventOf mDegree mFrom mTo mCrossings mEdges mMet mUpper mLower mTape mTaped mPoint mEnd mBegin mFaultAt mFive mTold mActs mFar mViews mHullX mHullY mEndX mEndY mHeightUp mHeightLow mMeets mMeetsOf Rw) [.ref (xsA X 100), .int a0, .int a1, .int a2]) (xsQi X out.1 (wM X mThrown mWorld mImage mDraft mEarlier mRemembered mHasImage mIsLaid mOne mTwo mShare mX mY mD mEventX mEventY mEventD mEvents mCrossingOf mBundle mEventOf mDegree mFrom mTo mCrossings mEdges mMet mUpper mLower mTape mTaped out.2.1 mEnd out.2.2.1 mFaultAt mFive out.2.2.2 mActs mFar mViews mHullX mHullY mEndX mEndY mHeightUp mHeightLow mMeets mMeetsOf Rw)) 0 0 (xsF X) := by
  refine xs_meth RX11 (by decide) rfl (Nat.le_of_ble_eq_true rfl) ?_
  intro p e s m below meth c ls H locs C hP hD hS hr hlk hl
  have hx := C.1
  have hb := C.2.1
  have hl : lv_has ls 6 [(0, .ref (xsA X 100)), (1, .int a0), (2, .int a1), (3, .int a2)] := hl
  obtain ⟨Qq, hQq⟩ : ∃ Qq, Qq = xsQi X out.1 (wM X mThrown mWorld mImage mDraft mEarlier mRemembered mHasImage mIsLaid mOne mTwo mShare mX mY mD mEventX mEventY mEventD mEvents mCrossingOf mBundle mEventOf mDegree mFrom mTo mCrossings mEdges mMet mUpper mLower mTape mTaped out.2.1 mEnd out.2.2.1 mFaultAt mFive out.2.2.2 mActs mFar mViews mHullX mHullY mEndX mEndY mHeightUp mHeightLow mMeets mMeetsOf Rw) := ⟨_, rfl⟩
  rw [← hQq]
  unfold fX11_reads at hf
  refine lv_aload_n hx hb dX11_reads_0 rfl (lv_at hl 0 rfl) ?_
  replace hf := xsBd_use hf
  obtain ⟨o1, h2, hf⟩ := hf
  refine xs_callv hS (xs_runV (As := []) C (mX11_blanks l  h2) w_1537 w_1539 w_35 w_115 w_1540 hd_X11_blanks ⟨rfl, rfl, Nat.le_of_ble_eq_true rfl, Nat.le_of_ble_eq_true rfl, Nat.zero_le _, Nat.zero_le _⟩ hP hD hS lk_X11 rfl hl.1 rfl (Nat.le_of_ble_eq_true rfl) dX11_reads_1) (fun H locs hP hD hS => ?_)
  refine lv_iconst (v := (0 : Int32)) hx hb dX11_reads_4 (by decide) ?_
  refine lv_istore (lv' := [(4, .int (0 : Int32)), (0, .ref (xsA X 100)), (1, .int a0), (2, .int a1), (3, .int a2)]) hx hb dX11_reads_5 hl (by decide) rfl (fun ls hl => ?_)
  refine lv_iconst (v := (0 : Int32)) hx hb dX11_reads_7 (by decide) ?_
  refine lv_istore (lv' := [(5, .int (0 : Int32)), (4, .int (0 : Int32)), (0, .ref (xsA X 100)), (1, .int a0), (2, .int a1), (3, .int a2)]) hx hb dX11_reads_8 hl (by decide) rfl (fun ls hl => ?_)
  have K6 : ∀ (y7 : Int32) (y8 : Int32) (y9 : Int32) (hf : fX11_reads_J68 mTold a0 a1 a2 o1 y7 y8 y9 = some out) (H : Heap) (locs : List Loc) (ls : Array Slot), va_P (xsD X) vwCl (wM X mThrown mWorld mImage mDraft mEarlier mRemembered mHasImage mIsLaid mOne mTwo mShare mX mY mD mEventX mEventY mEventD mEvents mCrossingOf mBundle mEventOf mDegree mFrom mTo mCrossings mEdges mMet mUpper mLower mTape mTaped y9 mEnd o1.2 mFaultAt mFive mTold mActs mFar mViews mHullX mHullY mEndX mEndY mHeightUp mHeightLow mMeets mMeetsOf Rw) H → va_D (xsF X) (wM X mThrown mWorld mImage mDraft mEarlier mRemembered mHasImage mIsLaid mOne mTwo mShare mX mY mD mEventX mEventY mEventD mEvents mCrossingOf mBundle mEventOf mDegree mFrom mTo mCrossings mEdges mMet mUpper mLower mTape mTaped y9 mEnd o1.2 mFaultAt mFive mTold mActs mFar mViews mHullX mHullY mEndX mEndY mHeightUp mHeightLow mMeets mMeetsOf Rw) → va_S (xsF X) s.heap H locs → lv_has ls 6 [(0, .ref (xsA X 100)), (1, .int a0), (2, .int a1), (3, .int a2), (4, .int y7), (5, .int y8)] → W p l e { frames := 2, cells := 0, slots := 0, locals := 42 } s m ([.ref (xsA X 100), .int a0, .int a1, .int a2] : List Value).toArray below meth c H locs 0 0 (MQ below Qq ([.ref (xsA X 100), .int a0, .int a1, .int a2] : List Value).toArray s 0 0 (xsF X)) (F0 m 68 ls []) := by
    intro y7 y8 y9 hf H locs ls hP hD hS hl
    unfold fX11_reads_J68 at hf
    refine lv_aload_n hx hb dX11_reads_68 rfl (lv_at hl 0 rfl) ?_
    refine xg_X11_82 C hP dX11_reads_69 ?_
    refine lv_iload_n hx hb dX11_reads_72 rfl (lv_at hl 1 rfl) ?_
    refine lv_iload hx hb dX11_reads_73 (lv_at hl 4 rfl) ?_
    replace hf := xsCk_use hf
    obtain ⟨h10, hf⟩ := hf
    refine xs_mTold C hP hD hS h10 dX11_reads_75 (fun f11 ef11 H locs hP hD hS => ?_)
    replace hf := xsLt_use ef11 hf
    refine lv_iload hx hb dX11_reads_76 (lv_at hl 5 rfl) ?_
    refine lv_i2l hx hb dX11_reads_78 rfl ?_
    refine lv_lconst (v := (1 : Int64)) hx hb dX11_reads_79 (by decide) ?_
    refine lv_ldc2 (v := (3 : Int64)) hx hb C.2.2.2.1 (xs_kts C _ w_1572) dX11_reads_80 ?_
    replace hf := xsBd_use hf
    obtain ⟨o12, h13, hf⟩ := hf
    refine xs_calli hS (xs_runS (As := [.long y8.toInt64, .long (1 : Int64), .long (3 : Int64)]) C (mX11_in l  h13) w_1573 w_1574 w_115 w_1575 hd_X11_in ⟨rfl, rfl, Nat.le_of_ble_eq_true rfl, Nat.le_of_ble_eq_true rfl, Nat.zero_le _, Nat.zero_le _⟩ hP hD hS hl.1 rfl (Nat.le_of_ble_eq_true rfl) dX11_reads_83) (fun H locs hP hD hS => ?_)
    refine lv_if_eq (tgt := 106) hx hb dX11_reads_86 (by decide) (fun c17 => ?_) (fun c17 => ?_)
    · replace hf := xsBr_t c17 hf
      refine lv_iconst (v := (0 : Int32)) hx hb dX11_reads_106 (by decide) ?_
      have ho := Option.some.inj hf
      subst ho
      rw [hQq]
      exact xs_zret C hr hlk xsB_0 hP hD hS dX11_reads_107
    · replace hf := xsBr_f c17 hf
      refine lv_iload hx hb dX11_reads_89 (lv_at hl 4 rfl) ?_
      refine lv_i2l hx hb dX11_reads_91 rfl ?_
      refine lv_iload_n hx hb dX11_reads_92 rfl (lv_at hl 2 rfl) ?_
      refine lv_i2l hx hb dX11_reads_93 rfl ?_
      refine lv_iload_n hx hb dX11_reads_94 rfl (lv_at hl 3 rfl) ?_
      refine lv_i2l hx hb dX11_reads_95 rfl ?_
      replace hf := xsBd_use hf
      obtain ⟨o14, h15, hf⟩ := hf
      refine xs_calli hS (xs_runS (As := [.long y7.toInt64, .long a1.toInt64, .long a2.toInt64]) C (mX11_in l  h15) w_1573 w_1574 w_115 w_1575 hd_X11_in ⟨rfl, rfl, Nat.le_of_ble_eq_true rfl, Nat.le_of_ble_eq_true rfl, Nat.zero_le _, Nat.zero_le _⟩ hP hD hS hl.1 rfl (Nat.le_of_ble_eq_true rfl) dX11_reads_96) (fun H locs hP hD hS => ?_)
      refine lv_if_eq (tgt := 106) hx hb dX11_reads_99 (by decide) (fun c16 => ?_) (fun c16 => ?_)
      · replace hf := xsBr_t c16 hf
        refine lv_iconst (v := (0 : Int32)) hx hb dX11_reads_106 (by decide) ?_
        have ho := Option.some.inj hf
        subst ho
        rw [hQq]
        exact xs_zret C hr hlk xsB_0 hP hD hS dX11_reads_107
      · replace hf := xsBr_f c16 hf
        refine lv_iconst (v := (1 : Int32)) hx hb dX11_reads_102 (by decide) ?_
        refine lv_goto (tgt := 107) hx hb dX11_reads_103 (by decide) ?_
        have ho := Option.some.inj hf
        subst ho
        rw [hQq]
        exact xs_zret C hr hlk xsB_1 hP hD hS dX11_reads_107
  replace hf := xsBd_use hf
  obtain ⟨r6, hk60, hf⟩ := hf
  have L6 : ∀ (sg : Int32 × Int32 × Int32) (rg : Int32 × Int32 × Int32), xsWh (fun s6 => fX11_reads_L10 mTape mEnd s6.1 s6.2.1 s6.2.2) sg = some rg → (fX11_reads_J68 mTold a0 a1 a2 o1 rg.1 rg.2.1 rg.2.2 = some out → ∀ (H : Heap) (locs : List Loc) (ls : Array Slot), va_P (xsD X) vwCl (wM X mThrown mWorld mImage mDraft mEarlier mRemembered mHasImage mIsLaid mOne mTwo mShare mX mY mD mEventX mEventY mEventD mEvents mCrossingOf mBundle mEventOf mDegree mFrom mTo mCrossings mEdges mMet mUpper mLower mTape mTaped sg.2.2 mEnd o1.2 mFaultAt mFive mTold mActs mFar mViews mHullX mHullY mEndX mEndY mHeightUp mHeightLow mMeets mMeetsOf Rw) H → va_D (xsF X) (wM X mThrown mWorld mImage mDraft mEarlier mRemembered mHasImage mIsLaid mOne mTwo mShare mX mY mD mEventX mEventY mEventD mEvents mCrossingOf mBundle mEventOf mDegree mFrom mTo mCrossings mEdges mMet mUpper mLower mTape mTaped sg.2.2 mEnd o1.2 mFaultAt mFive mTold mActs mFar mViews mHullX mHullY mEndX mEndY mHeightUp mHeightLow mMeets mMeetsOf Rw) → va_S (xsF X) s.heap H locs → lv_has ls 6 [(0, .ref (xsA X 100)), (1, .int a0), (2, .int a1), (3, .int a2), (4, .int sg.1), (5, .int sg.2.1)] → W p l e { frames := 2, cells := 0, slots := 0, locals := 42 } s m ([.ref (xsA X 100), .int a0, .int a1, .int a2] : List Value).toArray below meth c H locs 0 0 (MQ below Qq ([.ref (xsA X 100), .int a0, .int a1, .int a2] : List Value).toArray s 0 0 (xsF X)) (F0 m 10 ls [])) := by
    refine xsWh_ind ?_
    intro sg r6 u6 hf ih6 hx6 hk6 H locs ls hP hD hS hl
    obtain ⟨y3, y4, y5⟩ := sg
    replace hf : fX11_reads_L10 mTape mEnd y3 y4 y5 = some u6 := hf
    replace hl : lv_has ls 6 [(0, .ref (xsA X 100)), (1, .int a0), (2, .int a1), (3, .int a2), (4, .int y3), (5, .int y4)] := hl
    replace hP : va_P (xsD X) vwCl (wM X mThrown mWorld mImage mDraft mEarlier mRemembered mHasImage mIsLaid mOne mTwo mShare mX mY mD mEventX mEventY mEventD mEvents mCrossingOf mBundle mEventOf mDegree mFrom mTo mCrossings mEdges mMet mUpper mLower mTape mTaped y5 mEnd o1.2 mFaultAt mFive mTold mActs mFar mViews mHullX mHullY mEndX mEndY mHeightUp mHeightLow mMeets mMeetsOf Rw) H := hP
    replace hD : va_D (xsF X) (wM X mThrown mWorld mImage mDraft mEarlier mRemembered mHasImage mIsLaid mOne mTwo mShare mX mY mD mEventX mEventY mEventD mEvents mCrossingOf mBundle mEventOf mDegree mFrom mTo mCrossings mEdges mMet mUpper mLower mTape mTaped y5 mEnd o1.2 mFaultAt mFive mTold mActs mFar mViews mHullX mHullY mEndX mEndY mHeightUp mHeightLow mMeets mMeetsOf Rw) := hD
    unfold fX11_reads_L10 at hf
    refine lv_aload_n hx hb dX11_reads_10 rfl (lv_at hl 0 rfl) ?_
    refine lv_bipush (v := (48 : Int32)) hx hb dX11_reads_11 (by decide) ?_
    refine lv_bipush (v := (57 : Int32)) hx hb dX11_reads_13 (by decide) ?_
    replace hf := xsBd_use hf
    obtain ⟨o18, h19, hf⟩ := hf
    refine xs_calli hS (xs_runV (As := [.int (48 : Int32), .int (57 : Int32)]) C (mX11_isAt l  h19) w_1541 w_1543 w_36 w_115 w_1544 hd_X11_isAt ⟨rfl, rfl, Nat.le_of_ble_eq_true rfl, Nat.le_of_ble_eq_true rfl, Nat.zero_le _, Nat.zero_le _⟩ hP hD hS lk_X11 rfl hl.1 rfl (Nat.le_of_ble_eq_true rfl) dX11_reads_15) (fun H locs hP hD hS => ?_)
    refine lv_if_eq (tgt := 68) hx hb dX11_reads_18 (by decide) (fun c28 => ?_) (fun c28 => ?_)
    · replace hf := xsBr_t c28 hf
      have ez := hx6 _ (Option.some.inj hf).symm
      subst ez
      exact K6 y3 y4 y5 hk6 H locs ls hP hD hS (lv_sub hl [0, 1, 2, 3, 4, 5] rfl)
    · replace hf := xsBr_f c28 hf
      refine lv_iload hx hb dX11_reads_21 (lv_at hl 5 rfl) ?_
      refine lv_iconst (v := (3 : Int32)) hx hb dX11_reads_23 (by decide) ?_
      have K25 : ∀ (y20 : Int32) (hf : fX11_reads_J50 y4 y5 y20 = some u6) (H : Heap) (locs : List Loc) (ls : Array Slot), va_P (xsD X) vwCl (wM X mThrown mWorld mImage mDraft mEarlier mRemembered mHasImage mIsLaid mOne mTwo mShare mX mY mD mEventX mEventY mEventD mEvents mCrossingOf mBundle mEventOf mDegree mFrom mTo mCrossings mEdges mMet mUpper mLower mTape mTaped y5 mEnd o1.2 mFaultAt mFive mTold mActs mFar mViews mHullX mHullY mEndX mEndY mHeightUp mHeightLow mMeets mMeetsOf Rw) H → va_D (xsF X) (wM X mThrown mWorld mImage mDraft mEarlier mRemembered mHasImage mIsLaid mOne mTwo mShare mX mY mD mEventX mEventY mEventD mEvents mCrossingOf mBundle mEventOf mDegree mFrom mTo mCrossings mEdges mMet mUpper mLower mTape mTaped y5 mEnd o1.2 mFaultAt mFive mTold mActs mFar mViews mHullX mHullY mEndX mEndY mHeightUp mHeightLow mMeets mMeetsOf Rw) → va_S (xsF X) s.heap H locs → lv_has ls 6 [(0, .ref (xsA X 100)), (1, .int a0), (2, .int a1), (3, .int a2), (5, .int y4)] → W p l e { frames := 2, cells := 0, slots := 0, locals := 42 } s m ([.ref (xsA X 100), .int a0, .int a1, .int a2] : List Value).toArray below meth c H locs 0 0 (MQ below Qq ([.ref (xsA X 100), .int a0, .int a1, .int a2] : List Value).toArray s 0 0 (xsF X)) (F0 m 50 ls [.int y20]) := by
        intro y20 hf H locs ls hP hD hS hl
        unfold fX11_reads_J50 at hf
        refine lv_istore (lv' := [(4, .int y20), (0, .ref (xsA X 100)), (1, .int a0), (2, .int a1), (3, .int a2), (5, .int y4)]) hx hb dX11_reads_50 hl (by decide) rfl (fun ls hl => ?_)
        obtain ⟨x21, ex21⟩ : ∃ y : Int32, y = y4 + (1 : Int32) := ⟨_, rfl⟩
        replace hf := xsLt_use ex21 hf
        refine lv_iinc (v := x21) (lv' := [(5, .int x21), (4, .int y20), (0, .ref (xsA X 100)), (1, .int a0), (2, .int a1), (3, .int a2)]) hx hb dX11_reads_52 hl (k := 5) rfl (by rw [ex21]; rfl) (by decide) rfl (fun ls hl => ?_)
        refine lv_aload_n hx hb dX11_reads_55 rfl (lv_at hl 2 rfl) ?_
        refine lv_dup hx hb dX11_reads_56 rfl ?_
        refine xg_X11_247 C hP dX11_reads_57 ?_
        refine lv_iconst (v := (1 : Int32)) hx hb dX11_reads_60 (by decide) ?_
        refine lv_iadd hx hb dX11_reads_61 ?_
        refine lv_topi (fun x22 ex22 => ?_)
        replace hf := xsLt_use ex22 hf
        refine xp_X11_247 C hP hD hS dX11_reads_62 (fun H locs hP hD hS => ?_)
        refine lv_goto (tgt := 10) hx hb dX11_reads_65 (by decide) ?_
        exact ih6 _ (Option.some.inj hf).symm hk6 H locs ls hP hD hS (lv_sub hl [2, 3, 4, 5, 1, 0] rfl)
      replace hf := xsBd_use hf
      obtain ⟨v23, hf, hk24⟩ := hf
      refine lv_icmp_ge (tgt := 48) hx hb dX11_reads_24 (by decide) (fun c27 => ?_) (fun c27 => ?_)
      · replace hf := xsBr_t c27 hf
        refine lv_iload hx hb dX11_reads_48 (lv_at hl 4 rfl) ?_
        have ev := Option.some.inj hf
        subst ev
        exact K25 y3 hk24 H locs ls hP hD hS (lv_sub hl [0, 1, 2, 3, 5] rfl)
      · replace hf := xsBr_f c27 hf
        refine lv_bipush (v := (10 : Int32)) hx hb dX11_reads_27 (by decide) ?_
        refine lv_iload hx hb dX11_reads_29 (lv_at hl 4 rfl) ?_
        refine lv_imul hx hb dX11_reads_31 ?_
        refine lv_aload_n hx hb dX11_reads_32 rfl (lv_at hl 0 rfl) ?_
        refine xg_X11_72 C hP dX11_reads_33 ?_
        refine lv_aload_n hx hb dX11_reads_36 rfl (lv_at hl 0 rfl) ?_
        refine xg_X11_247 C hP dX11_reads_37 ?_
        replace hf := xsCk_use hf
        obtain ⟨h26, hf⟩ := hf
        refine xl_mTape C hP h26 dX11_reads_40 ?_
        refine lv_iadd hx hb dX11_reads_41 ?_
        refine lv_bipush (v := (48 : Int32)) hx hb dX11_reads_42 (by decide) ?_
        refine lv_isub hx hb dX11_reads_44 ?_
        refine lv_goto (tgt := 50) hx hb dX11_reads_45 (by decide) ?_
        have ev := Option.some.inj hf
        subst ev
        exact K25 ((((10 : Int32) * y3) + (mTape y5.toNatClampNeg)) - (48 : Int32)) hk24 H locs ls hP hD hS (lv_sub hl [0, 1, 2, 3, 5] rfl)
  exact L6 ((0 : Int32), (0 : Int32), o1.1) r6 hk60 hf H locs ls hP hD hS (lv_sub hl [2, 3, 4, 5, 1, 0] rfl)
set_option maxRecDepth 100000 in
set_option maxHeartbeats 8000000 in
theorem mX11_readsSigned (l : Launch) {X : xsX} {mThrown mRemembered mHasImage mIsLaid mEvents mCrossings mEdges mTaped mPoint mEnd mBegin mFaultAt mActs : Int32} {mWorld mImage mDraft mEarlier mOne mTwo mShare mCrossingOf mBundle mEventOf mDegree mFrom mTo mMet mTape mFive mTold mFar mViews mHullX mHullY mEndX mEndY mMeets mMeetsOf : Nat → Int32} {mX mY mD mHeightUp mHeightLow : Int64} {mEventX mEventY mEventD mUpper mLower : Nat → Int64} {Rw : va_W} {a0 : Int32} {out : Int32 × Int32 × Int32 × (Nat → Int32)} (hf : fX11_readsSigned mTape mPoint mEnd mBegin mTold a0 = some out) : Met l yX11_readsSigned (xsWs yX11_readsSigned cX11_readsSigned 4 (some .boolean)) { frames := 3, cells := 0, slots := 0, locals := 67 } (xsP X (wM X mThrown mWorld mImage mDraft mEarlier mRemembered mHasImage mIsLaid mOne mTwo mShare mX mY mD mEventX mEventY mEventD mEvents mCrossingOf mBundle mEventOf mDegree mFrom mTo mCrossings mEdges mMet mUpper mLower mTape mTaped mPoint mEnd mBegin mFaultAt mFive mTold mActs mFar mViews mHullX mHullY mEndX mEndY mHeightUp mHeightLow mMeets mMeetsOf Rw) [.ref (xsA X 100), .int a0]) (xsQi X out.1 (wM X mThrown mWorld mImage mDraft mEarlier mRemembered mHasImage mIsLaid mOne mTwo mShare mX mY mD mEventX mEventY mEventD mEvents mCrossingOf mBundle mEventOf mDegree mFrom mTo mCrossings mEdges mMet mUpper mLower mTape mTaped out.2.1 mEnd out.2.2.1 mFaultAt mFive out.2.2.2 mActs mFar mViews mHullX mHullY mEndX mEndY mHeightUp mHeightLow mMeets mMeetsOf Rw)) 0 0 (xsF X) := by
  refine xs_meth RX11 (by decide) rfl (Nat.le_of_ble_eq_true rfl) ?_
  intro p e s m below meth c ls H locs C hP hD hS hr hlk hl
  have hx := C.1
  have hb := C.2.1
  have hl : lv_has ls 4 [(0, .ref (xsA X 100)), (1, .int a0)] := hl
  obtain ⟨Qq, hQq⟩ : ∃ Qq, Qq = xsQi X out.1 (wM X mThrown mWorld mImage mDraft mEarlier mRemembered mHasImage mIsLaid mOne mTwo mShare mX mY mD mEventX mEventY mEventD mEvents mCrossingOf mBundle mEventOf mDegree mFrom mTo mCrossings mEdges mMet mUpper mLower mTape mTaped out.2.1 mEnd out.2.2.1 mFaultAt mFive out.2.2.2 mActs mFar mViews mHullX mHullY mEndX mEndY mHeightUp mHeightLow mMeets mMeetsOf Rw) := ⟨_, rfl⟩
  rw [← hQq]
  unfold fX11_readsSigned at hf
  refine lv_aload_n hx hb dX11_readsSigned_0 rfl (lv_at hl 0 rfl) ?_
  replace hf := xsBd_use hf
  obtain ⟨o1, h2, hf⟩ := hf
  refine xs_callv hS (xs_runV (As := []) C (mX11_blanks l  h2) w_1537 w_1539 w_35 w_115 w_1540 hd_X11_blanks ⟨rfl, rfl, Nat.le_of_ble_eq_true rfl, Nat.le_of_ble_eq_true rfl, Nat.zero_le _, Nat.zero_le _⟩ hP hD hS lk_X11 rfl hl.1 rfl (Nat.le_of_ble_eq_true rfl) dX11_readsSigned_1) (fun H locs hP hD hS => ?_)
  refine lv_aload_n hx hb dX11_readsSigned_4 rfl (lv_at hl 0 rfl) ?_
  refine lv_bipush (v := (45 : Int32)) hx hb dX11_readsSigned_5 (by decide) ?_
  refine lv_bipush (v := (45 : Int32)) hx hb dX11_readsSigned_7 (by decide) ?_
  replace hf := xsBd_use hf
  obtain ⟨o3, h4, hf⟩ := hf
  refine xs_calli hS (xs_runV (As := [.int (45 : Int32), .int (45 : Int32)]) C (mX11_isAt l  h4) w_1541 w_1543 w_36 w_115 w_1544 hd_X11_isAt ⟨rfl, rfl, Nat.le_of_ble_eq_true rfl, Nat.le_of_ble_eq_true rfl, Nat.zero_le _, Nat.zero_le _⟩ hP hD hS lk_X11 rfl hl.1 rfl (Nat.le_of_ble_eq_true rfl) dX11_readsSigned_9) (fun H locs hP hD hS => ?_)
  refine lv_if_ne (tgt := 25) hx hb dX11_readsSigned_12 (by decide) (fun c18 => ?_) (fun c18 => ?_)
  · replace hf := xsBr_f c18 hf
    refine lv_aload_n hx hb dX11_readsSigned_25 rfl (lv_at hl 0 rfl) ?_
    refine xg_X11_247 C hP dX11_readsSigned_26 ?_
    refine lv_istore_n (lv' := [(2, .int o1.1), (0, .ref (xsA X 100)), (1, .int a0)]) hx hb dX11_readsSigned_29 rfl hl (by decide) rfl (fun ls hl => ?_)
    refine lv_aload_n hx hb dX11_readsSigned_30 rfl (lv_at hl 1 rfl) ?_
    refine lv_dup hx hb dX11_readsSigned_31 rfl ?_
    refine xg_X11_247 C hP dX11_readsSigned_32 ?_
    refine lv_iconst (v := (1 : Int32)) hx hb dX11_readsSigned_35 (by decide) ?_
    refine lv_iadd hx hb dX11_readsSigned_36 ?_
    refine lv_topi (fun x5 ex5 => ?_)
    replace hf := xsLt_use ex5 hf
    refine xp_X11_247 C hP hD hS dX11_readsSigned_37 (fun H locs hP hD hS => ?_)
    refine lv_aload_n hx hb dX11_readsSigned_40 rfl (lv_at hl 1 rfl) ?_
    refine lv_bipush (v := (48 : Int32)) hx hb dX11_readsSigned_41 (by decide) ?_
    refine lv_bipush (v := (57 : Int32)) hx hb dX11_readsSigned_43 (by decide) ?_
    replace hf := xsBd_use hf
    obtain ⟨o6, h7, hf⟩ := hf
    refine xs_calli hS (xs_runV (As := [.int (48 : Int32), .int (57 : Int32)]) C (mX11_isAt l  h7) w_1541 w_1543 w_36 w_115 w_1544 hd_X11_isAt ⟨rfl, rfl, Nat.le_of_ble_eq_true rfl, Nat.le_of_ble_eq_true rfl, Nat.zero_le _, Nat.zero_le _⟩ hP hD hS lk_X11 rfl hl.1 rfl (Nat.le_of_ble_eq_true rfl) dX11_readsSigned_45) (fun H locs hP hD hS => ?_)
    refine lv_if_ne (tgt := 61) hx hb dX11_readsSigned_48 (by decide) (fun c14 => ?_) (fun c14 => ?_)
    · replace hf := xsBr_f c14 hf
      refine lv_aload_n hx hb dX11_readsSigned_61 rfl (lv_at hl 1 rfl) ?_
      refine lv_iload_n hx hb dX11_readsSigned_62 rfl (lv_at hl 2 rfl) ?_
      refine lv_iconst (v := (0 : Int32)) hx hb dX11_readsSigned_63 (by decide) ?_
      refine lv_sipush (v := (999 : Int32)) hx hb dX11_readsSigned_64 (by decide) ?_
      replace hf := xsBd_use hf
      obtain ⟨o8, h9, hf⟩ := hf
      refine xs_calli hS (xs_runV (As := [.int a0, .int (0 : Int32), .int (999 : Int32)]) C (mX11_reads l  h9) w_1568 w_1570 w_42 w_115 w_1571 hd_X11_reads ⟨rfl, rfl, Nat.le_of_ble_eq_true rfl, Nat.le_of_ble_eq_true rfl, Nat.zero_le _, Nat.zero_le _⟩ hP hD hS lk_X11 rfl hl.1 rfl (Nat.le_of_ble_eq_true rfl) dX11_readsSigned_67) (fun H locs hP hD hS => ?_)
      refine lv_istore_n (lv' := [(3, .int o8.1), (2, .int o1.1), (0, .ref (xsA X 100)), (1, .int a0)]) hx hb dX11_readsSigned_70 rfl hl (by decide) rfl (fun ls hl => ?_)
      refine lv_aload_n hx hb dX11_readsSigned_71 rfl (lv_at hl 2 rfl) ?_
      refine xg_X11_82 C hP dX11_readsSigned_72 ?_
      refine lv_iload_n hx hb dX11_readsSigned_75 rfl (lv_at hl 3 rfl) ?_
      refine lv_aload_n hx hb dX11_readsSigned_76 rfl (lv_at hl 2 rfl) ?_
      refine xg_X11_82 C hP dX11_readsSigned_77 ?_
      refine lv_iload_n hx hb dX11_readsSigned_80 rfl (lv_at hl 3 rfl) ?_
      replace hf := xsCk_use hf
      obtain ⟨h10, hf⟩ := hf
      refine xl_mTold C hP h10 dX11_readsSigned_81 ?_
      refine lv_ineg hx hb dX11_readsSigned_82 ?_
      replace hf := xsCk_use hf
      obtain ⟨h11, hf⟩ := hf
      refine xs_mTold C hP hD hS h11 dX11_readsSigned_83 (fun f12 ef12 H locs hP hD hS => ?_)
      replace hf := xsLt_use ef12 hf
      refine lv_aload_n hx hb dX11_readsSigned_84 rfl (lv_at hl 2 rfl) ?_
      refine lv_iload_n hx hb dX11_readsSigned_85 rfl (lv_at hl 1 rfl) ?_
      refine xp_X11_256 C hP hD hS dX11_readsSigned_86 (fun H locs hP hD hS => ?_)
      refine lv_iload_n hx hb dX11_readsSigned_89 rfl (lv_at hl 0 rfl) ?_
      replace hf := xsCk_use hf
      obtain ⟨h13, hf⟩ := hf
      have ho := Option.some.inj hf
      subst ho
      rw [hQq]
      exact xs_zret C hr hlk h13 hP hD hS dX11_readsSigned_90
    · replace hf := xsBr_t c14 hf
      refine lv_aload_n hx hb dX11_readsSigned_51 rfl (lv_at hl 1 rfl) ?_
      refine lv_aload_n hx hb dX11_readsSigned_52 rfl (lv_at hl 1 rfl) ?_
      refine xg_X11_247 C hP dX11_readsSigned_53 ?_
      refine xp_X11_256 C hP hD hS dX11_readsSigned_56 (fun H locs hP hD hS => ?_)
      refine lv_iconst (v := (0 : Int32)) hx hb dX11_readsSigned_59 (by decide) ?_
      have ho := Option.some.inj hf
      subst ho
      rw [hQq]
      exact xs_zret C hr hlk xsB_0 hP hD hS dX11_readsSigned_60
  · replace hf := xsBr_t c18 hf
    refine lv_aload_n hx hb dX11_readsSigned_15 rfl (lv_at hl 0 rfl) ?_
    refine lv_iload_n hx hb dX11_readsSigned_16 rfl (lv_at hl 1 rfl) ?_
    refine lv_iconst (v := (0 : Int32)) hx hb dX11_readsSigned_17 (by decide) ?_
    refine lv_sipush (v := (999 : Int32)) hx hb dX11_readsSigned_18 (by decide) ?_
    replace hf := xsBd_use hf
    obtain ⟨o15, h16, hf⟩ := hf
    refine xs_calli hS (xs_runV (As := [.int a0, .int (0 : Int32), .int (999 : Int32)]) C (mX11_reads l  h16) w_1568 w_1570 w_42 w_115 w_1571 hd_X11_reads ⟨rfl, rfl, Nat.le_of_ble_eq_true rfl, Nat.le_of_ble_eq_true rfl, Nat.zero_le _, Nat.zero_le _⟩ hP hD hS lk_X11 rfl hl.1 rfl (Nat.le_of_ble_eq_true rfl) dX11_readsSigned_21) (fun H locs hP hD hS => ?_)
    replace hf := xsCk_use hf
    obtain ⟨h17, hf⟩ := hf
    have ho := Option.some.inj hf
    subst ho
    rw [hQq]
    exact xs_zret C hr hlk h17 hP hD hS dX11_readsSigned_24
set_option maxRecDepth 100000 in
set_option maxHeartbeats 8000000 in
theorem mX11_wrongAt (l : Launch) {X : xsX} {mThrown mRemembered mHasImage mIsLaid mEvents mCrossings mEdges mTaped mPoint mEnd mBegin mFaultAt mActs : Int32} {mWorld mImage mDraft mEarlier mOne mTwo mShare mCrossingOf mBundle mEventOf mDegree mFrom mTo mMet mTape mFive mTold mFar mViews mHullX mHullY mEndX mEndY mMeets mMeetsOf : Nat → Int32} {mX mY mD mHeightUp mHeightLow : Int64} {mEventX mEventY mEventD mUpper mLower : Nat → Int64} {Rw : va_W} {a0 : Int32} {out : Int32 × Int32} (hf : fX11_wrongAt mBegin a0 = some out) : Met l yX11_wrongAt (xsWs yX11_wrongAt cX11_wrongAt 2 (some .boolean)) { frames := 0, cells := 0, slots := 0, locals := 0 } (xsP X (wM X mThrown mWorld mImage mDraft mEarlier mRemembered mHasImage mIsLaid mOne mTwo mShare mX mY mD mEventX mEventY mEventD mEvents mCrossingOf mBundle mEventOf mDegree mFrom mTo mCrossings mEdges mMet mUpper mLower mTape mTaped mPoint mEnd mBegin mFaultAt mFive mTold mActs mFar mViews mHullX mHullY mEndX mEndY mHeightUp mHeightLow mMeets mMeetsOf Rw) [.ref (xsA X 100), .int a0]) (xsQi X out.1 (wM X mThrown mWorld mImage mDraft mEarlier mRemembered mHasImage mIsLaid mOne mTwo mShare mX mY mD mEventX mEventY mEventD mEvents mCrossingOf mBundle mEventOf mDegree mFrom mTo mCrossings mEdges mMet mUpper mLower mTape mTaped mPoint mEnd out.2 mFaultAt mFive mTold mActs mFar mViews mHullX mHullY mEndX mEndY mHeightUp mHeightLow mMeets mMeetsOf Rw)) 0 0 (xsF X) := by
  refine xs_meth RX11 (by decide) rfl (Nat.le_of_ble_eq_true rfl) ?_
  intro p e s m below meth c ls H locs C hP hD hS hr hlk hl
  have hx := C.1
  have hb := C.2.1
  have hl : lv_has ls 2 [(0, .ref (xsA X 100)), (1, .int a0)] := hl
  obtain ⟨Qq, hQq⟩ : ∃ Qq, Qq = xsQi X out.1 (wM X mThrown mWorld mImage mDraft mEarlier mRemembered mHasImage mIsLaid mOne mTwo mShare mX mY mD mEventX mEventY mEventD mEvents mCrossingOf mBundle mEventOf mDegree mFrom mTo mCrossings mEdges mMet mUpper mLower mTape mTaped mPoint mEnd out.2 mFaultAt mFive mTold mActs mFar mViews mHullX mHullY mEndX mEndY mHeightUp mHeightLow mMeets mMeetsOf Rw) := ⟨_, rfl⟩
  rw [← hQq]
  unfold fX11_wrongAt at hf
  refine lv_aload_n hx hb dX11_wrongAt_0 rfl (lv_at hl 0 rfl) ?_
  refine lv_iload_n hx hb dX11_wrongAt_1 rfl (lv_at hl 1 rfl) ?_
  refine xp_X11_256 C hP hD hS dX11_wrongAt_2 (fun H locs hP hD hS => ?_)
  refine lv_iconst (v := (0 : Int32)) hx hb dX11_wrongAt_5 (by decide) ?_
  have ho := Option.some.inj hf
  subst ho
  rw [hQq]
  exact xs_zret C hr hlk xsB_0 hP hD hS dX11_wrongAt_6
set_option maxRecDepth 100000 in
set_option maxHeartbeats 8000000 in
theorem mX11_adds (l : Launch) {X : xsX} {mThrown mRemembered mHasImage mIsLaid mEvents mCrossings mEdges mTaped mPoint mEnd mBegin mFaultAt mActs : Int32} {mWorld mImage mDraft mEarlier mOne mTwo mShare mCrossingOf mBundle mEventOf mDegree mFrom mTo mMet mTape mFive mTold mFar mViews mHullX mHullY mEndX mEndY mMeets mMeetsOf : Nat → Int32} {mX mY mD mHeightUp mHeightLow : Int64} {mEventX mEventY mEventD mUpper mLower : Nat → Int64} {Rw : va_W} {a0 : Int32} {a1 : Int32} {a2 : Int32} {a3 : Int32} {a4 : Int32} {out : Int32 × (Nat → Int32) × Int32} (hf : fX11_adds mWorld mIsLaid a0 a1 a2 a3 a4 = some out) : Met l yX11_adds (xsWs yX11_adds cX11_adds 7 (some .int)) { frames := 1, cells := 0, slots := 0, locals := 28 } (xsP X (wM X mThrown mWorld mImage mDraft mEarlier mRemembered mHasImage mIsLaid mOne mTwo mShare mX mY mD mEventX mEventY mEventD mEvents mCrossingOf mBundle mEventOf mDegree mFrom mTo mCrossings mEdges mMet mUpper mLower mTape mTaped mPoint mEnd mBegin mFaultAt mFive mTold mActs mFar mViews mHullX mHullY mEndX mEndY mHeightUp mHeightLow mMeets mMeetsOf Rw) [.ref (xsA X 100), .int a0, .int a1, .int a2, .int a3, .int a4]) (xsQi X out.1 (wM X mThrown out.2.1 mImage mDraft mEarlier mRemembered mHasImage out.2.2 mOne mTwo mShare mX mY mD mEventX mEventY mEventD mEvents mCrossingOf mBundle mEventOf mDegree mFrom mTo mCrossings mEdges mMet mUpper mLower mTape mTaped mPoint mEnd mBegin mFaultAt mFive mTold mActs mFar mViews mHullX mHullY mEndX mEndY mHeightUp mHeightLow mMeets mMeetsOf Rw)) 0 0 (xsF X) := by
  refine xs_meth RX11 (by decide) rfl (Nat.le_of_ble_eq_true rfl) ?_
  intro p e s m below meth c ls H locs C hP hD hS hr hlk hl
  have hx := C.1
  have hb := C.2.1
  have hl : lv_has ls 7 [(0, .ref (xsA X 100)), (1, .int a0), (2, .int a1), (3, .int a2), (4, .int a3), (5, .int a4)] := hl
  obtain ⟨Qq, hQq⟩ : ∃ Qq, Qq = xsQi X out.1 (wM X mThrown out.2.1 mImage mDraft mEarlier mRemembered mHasImage out.2.2 mOne mTwo mShare mX mY mD mEventX mEventY mEventD mEvents mCrossingOf mBundle mEventOf mDegree mFrom mTo mCrossings mEdges mMet mUpper mLower mTape mTaped mPoint mEnd mBegin mFaultAt mFive mTold mActs mFar mViews mHullX mHullY mEndX mEndY mHeightUp mHeightLow mMeets mMeetsOf Rw) := ⟨_, rfl⟩
  rw [← hQq]
  unfold fX11_adds at hf
  refine lv_aload_n hx hb dX11_adds_0 rfl (lv_at hl 0 rfl) ?_
  replace hf := xsBd_use hf
  obtain ⟨o1, h2, hf⟩ := hf
  refine xs_calli hS (xs_runV (As := []) C (mX11_many l  h2) w_1581 w_1583 w_44 w_115 w_1584 hd_X11_many ⟨rfl, rfl, Nat.le_of_ble_eq_true rfl, Nat.le_of_ble_eq_true rfl, Nat.zero_le _, Nat.zero_le _⟩ hP hD hS lk_X11 rfl hl.1 rfl (Nat.le_of_ble_eq_true rfl) dX11_adds_1) (fun H locs hP hD hS => ?_)
  refine lv_istore (lv' := [(6, .int o1), (0, .ref (xsA X 100)), (1, .int a0), (2, .int a1), (3, .int a2), (4, .int a3), (5, .int a4)]) hx hb dX11_adds_4 hl (by decide) rfl (fun ls hl => ?_)
  refine lv_aload_n hx hb dX11_adds_6 rfl (lv_at hl 1 rfl) ?_
  refine xg_X11_13 C hP dX11_adds_7 ?_
  refine lv_iconst (v := (0 : Int32)) hx hb dX11_adds_10 (by decide) ?_
  refine lv_dup2_11 hx hb dX11_adds_11 rfl rfl ?_
  replace hf := xsCk_use hf
  obtain ⟨h3, hf⟩ := hf
  refine xl_mWorld C hP h3 dX11_adds_12 ?_
  refine lv_iconst (v := (1 : Int32)) hx hb dX11_adds_13 (by decide) ?_
  refine lv_iadd hx hb dX11_adds_14 ?_
  replace hf := xsCk_use hf
  obtain ⟨h4, hf⟩ := hf
  refine xs_mWorld C hP hD hS h4 dX11_adds_15 (fun f5 ef5 H locs hP hD hS => ?_)
  replace hf := xsLt_use ef5 hf
  refine lv_aload_n hx hb dX11_adds_16 rfl (lv_at hl 1 rfl) ?_
  refine lv_iload hx hb dX11_adds_17 (lv_at hl 0 rfl) ?_
  refine lv_iload_n hx hb dX11_adds_19 rfl (lv_at hl 2 rfl) ?_
  refine lv_iload_n hx hb dX11_adds_20 rfl (lv_at hl 3 rfl) ?_
  refine lv_iload_n hx hb dX11_adds_21 rfl (lv_at hl 4 rfl) ?_
  refine lv_iload hx hb dX11_adds_22 (lv_at hl 5 rfl) ?_
  refine lv_iload hx hb dX11_adds_24 (lv_at hl 6 rfl) ?_
  replace hf := xsBd_use hf
  obtain ⟨o6, h7, hf⟩ := hf
  refine xs_callv hS (xs_runV (As := [.int o1, .int a0, .int a1, .int a2, .int a3, .int a4]) C (mX11_puts l  h7) w_1593 w_1595 w_47 w_115 w_1596 hd_X11_puts ⟨rfl, rfl, Nat.le_of_ble_eq_true rfl, Nat.le_of_ble_eq_true rfl, Nat.zero_le _, Nat.zero_le _⟩ hP hD hS lk_X11 rfl hl.1 rfl (Nat.le_of_ble_eq_true rfl) dX11_adds_26) (fun H locs hP hD hS => ?_)
  refine lv_iload hx hb dX11_adds_29 (lv_at hl 0 rfl) ?_
  have ho := Option.some.inj hf
  subst ho
  rw [hQq]
  exact xs_iret C hr hlk hP hD hS dX11_adds_31
set_option maxRecDepth 100000 in
set_option maxHeartbeats 8000000 in
theorem mX11_cuts (l : Launch) {X : xsX} {mThrown mRemembered mHasImage mIsLaid mEvents mCrossings mEdges mTaped mPoint mEnd mBegin mFaultAt mActs : Int32} {mWorld mImage mDraft mEarlier mOne mTwo mShare mCrossingOf mBundle mEventOf mDegree mFrom mTo mMet mTape mFive mTold mFar mViews mHullX mHullY mEndX mEndY mMeets mMeetsOf : Nat → Int32} {mX mY mD mHeightUp mHeightLow : Int64} {mEventX mEventY mEventD mUpper mLower : Nat → Int64} {Rw : va_W} {a0 : Int32} {out : (Nat → Int32) × Int32} (hf : fX11_cuts mWorld mIsLaid a0 = some out) : Met l yX11_cuts (xsWs yX11_cuts cX11_cuts 3 none) { frames := 1, cells := 0, slots := 0, locals := 20 } (xsP X (wM X mThrown mWorld mImage mDraft mEarlier mRemembered mHasImage mIsLaid mOne mTwo mShare mX mY mD mEventX mEventY mEventD mEvents mCrossingOf mBundle mEventOf mDegree mFrom mTo mCrossings mEdges mMet mUpper mLower mTape mTaped mPoint mEnd mBegin mFaultAt mFive mTold mActs mFar mViews mHullX mHullY mEndX mEndY mHeightUp mHeightLow mMeets mMeetsOf Rw) [.ref (xsA X 100), .int a0]) (xsQv X (wM X mThrown out.1 mImage mDraft mEarlier mRemembered mHasImage out.2 mOne mTwo mShare mX mY mD mEventX mEventY mEventD mEvents mCrossingOf mBundle mEventOf mDegree mFrom mTo mCrossings mEdges mMet mUpper mLower mTape mTaped mPoint mEnd mBegin mFaultAt mFive mTold mActs mFar mViews mHullX mHullY mEndX mEndY mHeightUp mHeightLow mMeets mMeetsOf Rw)) 0 0 (xsF X) := by
  refine xs_meth RX11 (by decide) rfl (Nat.le_of_ble_eq_true rfl) ?_
  intro p e s m below meth c ls H locs C hP hD hS hr hlk hl
  have hx := C.1
  have hb := C.2.1
  have hl : lv_has ls 3 [(0, .ref (xsA X 100)), (1, .int a0)] := hl
  obtain ⟨Qq, hQq⟩ : ∃ Qq, Qq = xsQv X (wM X mThrown out.1 mImage mDraft mEarlier mRemembered mHasImage out.2 mOne mTwo mShare mX mY mD mEventX mEventY mEventD mEvents mCrossingOf mBundle mEventOf mDegree mFrom mTo mCrossings mEdges mMet mUpper mLower mTape mTaped mPoint mEnd mBegin mFaultAt mFive mTold mActs mFar mViews mHullX mHullY mEndX mEndY mHeightUp mHeightLow mMeets mMeetsOf Rw) := ⟨_, rfl⟩
  rw [← hQq]
  unfold fX11_cuts at hf
  refine lv_iconst (v := (1 : Int32)) hx hb dX11_cuts_0 (by decide) ?_
  refine lv_iconst (v := (5 : Int32)) hx hb dX11_cuts_1 (by decide) ?_
  refine lv_iload_n hx hb dX11_cuts_2 rfl (lv_at hl 1 rfl) ?_
  refine lv_imul hx hb dX11_cuts_3 ?_
  refine lv_iadd hx hb dX11_cuts_4 ?_
  refine lv_topi (fun x1 ex1 => ?_)
  replace hf := xsLt_use ex1 hf
  refine lv_istore_n (lv' := [(2, .int x1), (0, .ref (xsA X 100)), (1, .int a0)]) hx hb dX11_cuts_5 rfl hl (by decide) rfl (fun ls hl => ?_)
  have K4 : ∀ (y5 : Nat → Int32) (hf : fX11_cuts_J40 y5 = some out) (H : Heap) (locs : List Loc) (ls : Array Slot), va_P (xsD X) vwCl (wM X mThrown y5 mImage mDraft mEarlier mRemembered mHasImage mIsLaid mOne mTwo mShare mX mY mD mEventX mEventY mEventD mEvents mCrossingOf mBundle mEventOf mDegree mFrom mTo mCrossings mEdges mMet mUpper mLower mTape mTaped mPoint mEnd mBegin mFaultAt mFive mTold mActs mFar mViews mHullX mHullY mEndX mEndY mHeightUp mHeightLow mMeets mMeetsOf Rw) H → va_D (xsF X) (wM X mThrown y5 mImage mDraft mEarlier mRemembered mHasImage mIsLaid mOne mTwo mShare mX mY mD mEventX mEventY mEventD mEvents mCrossingOf mBundle mEventOf mDegree mFrom mTo mCrossings mEdges mMet mUpper mLower mTape mTaped mPoint mEnd mBegin mFaultAt mFive mTold mActs mFar mViews mHullX mHullY mEndX mEndY mHeightUp mHeightLow mMeets mMeetsOf Rw) → va_S (xsF X) s.heap H locs → lv_has ls 3 [(0, .ref (xsA X 100))] → W p l e { frames := 1, cells := 0, slots := 0, locals := 20 } s m ([.ref (xsA X 100), .int a0] : List Value).toArray below meth c H locs 0 0 (MQ below Qq ([.ref (xsA X 100), .int a0] : List Value).toArray s 0 0 (xsF X)) (F0 m 40 ls []) := by
    intro y5 hf H locs ls hP hD hS hl
    unfold fX11_cuts_J40 at hf
    refine lv_aload_n hx hb dX11_cuts_40 rfl (lv_at hl 0 rfl) ?_
    refine xg_X11_13 C hP dX11_cuts_41 ?_
    refine lv_iconst (v := (0 : Int32)) hx hb dX11_cuts_44 (by decide) ?_
    refine lv_dup2_11 hx hb dX11_cuts_45 rfl rfl ?_
    replace hf := xsCk_use hf
    obtain ⟨h6, hf⟩ := hf
    refine xl_mWorld C hP h6 dX11_cuts_46 ?_
    refine lv_iconst (v := (1 : Int32)) hx hb dX11_cuts_47 (by decide) ?_
    refine lv_isub hx hb dX11_cuts_48 ?_
    replace hf := xsCk_use hf
    obtain ⟨h7, hf⟩ := hf
    refine xs_mWorld C hP hD hS h7 dX11_cuts_49 (fun f8 ef8 H locs hP hD hS => ?_)
    replace hf := xsLt_use ef8 hf
    refine lv_aload_n hx hb dX11_cuts_50 rfl (lv_at hl 0 rfl) ?_
    refine lv_iconst (v := (0 : Int32)) hx hb dX11_cuts_51 (by decide) ?_
    refine xp_X11_109 xsB_0 C hP hD hS dX11_cuts_52 (fun H locs hP hD hS => ?_)
    have ho := Option.some.inj hf
    subst ho
    rw [hQq]
    exact xs_vret C hr hlk hP hD hS dX11_cuts_55
  replace hf := xsBd_use hf
  obtain ⟨r4, hk40, hf⟩ := hf
  have L4 : ∀ (sg : Int32 × (Nat → Int32)) (rg : (Nat → Int32)), xsWh (fun s4 => fX11_cuts_L6 s4.1 s4.2) sg = some rg → (fX11_cuts_J40 rg = some out → ∀ (H : Heap) (locs : List Loc) (ls : Array Slot), va_P (xsD X) vwCl (wM X mThrown sg.2 mImage mDraft mEarlier mRemembered mHasImage mIsLaid mOne mTwo mShare mX mY mD mEventX mEventY mEventD mEvents mCrossingOf mBundle mEventOf mDegree mFrom mTo mCrossings mEdges mMet mUpper mLower mTape mTaped mPoint mEnd mBegin mFaultAt mFive mTold mActs mFar mViews mHullX mHullY mEndX mEndY mHeightUp mHeightLow mMeets mMeetsOf Rw) H → va_D (xsF X) (wM X mThrown sg.2 mImage mDraft mEarlier mRemembered mHasImage mIsLaid mOne mTwo mShare mX mY mD mEventX mEventY mEventD mEvents mCrossingOf mBundle mEventOf mDegree mFrom mTo mCrossings mEdges mMet mUpper mLower mTape mTaped mPoint mEnd mBegin mFaultAt mFive mTold mActs mFar mViews mHullX mHullY mEndX mEndY mHeightUp mHeightLow mMeets mMeetsOf Rw) → va_S (xsF X) s.heap H locs → lv_has ls 3 [(0, .ref (xsA X 100)), (2, .int sg.1)] → W p l e { frames := 1, cells := 0, slots := 0, locals := 20 } s m ([.ref (xsA X 100), .int a0] : List Value).toArray below meth c H locs 0 0 (MQ below Qq ([.ref (xsA X 100), .int a0] : List Value).toArray s 0 0 (xsF X)) (F0 m 6 ls [])) := by
    refine xsWh_ind ?_
    intro sg r4 u4 hf ih4 hx4 hk4 H locs ls hP hD hS hl
    obtain ⟨y2, y3⟩ := sg
    replace hf : fX11_cuts_L6 y2 y3 = some u4 := hf
    replace hl : lv_has ls 3 [(0, .ref (xsA X 100)), (2, .int y2)] := hl
    replace hP : va_P (xsD X) vwCl (wM X mThrown y3 mImage mDraft mEarlier mRemembered mHasImage mIsLaid mOne mTwo mShare mX mY mD mEventX mEventY mEventD mEvents mCrossingOf mBundle mEventOf mDegree mFrom mTo mCrossings mEdges mMet mUpper mLower mTape mTaped mPoint mEnd mBegin mFaultAt mFive mTold mActs mFar mViews mHullX mHullY mEndX mEndY mHeightUp mHeightLow mMeets mMeetsOf Rw) H := hP
    replace hD : va_D (xsF X) (wM X mThrown y3 mImage mDraft mEarlier mRemembered mHasImage mIsLaid mOne mTwo mShare mX mY mD mEventX mEventY mEventD mEvents mCrossingOf mBundle mEventOf mDegree mFrom mTo mCrossings mEdges mMet mUpper mLower mTape mTaped mPoint mEnd mBegin mFaultAt mFive mTold mActs mFar mViews mHullX mHullY mEndX mEndY mHeightUp mHeightLow mMeets mMeetsOf Rw) := hD
    unfold fX11_cuts_L6 at hf
    refine lv_iload_n hx hb dX11_cuts_6 rfl (lv_at hl 1 rfl) ?_
    refine lv_iconst (v := (1 : Int32)) hx hb dX11_cuts_7 (by decide) ?_
    refine lv_iconst (v := (5 : Int32)) hx hb dX11_cuts_8 (by decide) ?_
    refine lv_aload_n hx hb dX11_cuts_9 rfl (lv_at hl 0 rfl) ?_
    replace hf := xsBd_use hf
    obtain ⟨o9, h10, hf⟩ := hf
    refine xs_calli hS (xs_runV (As := []) C (mX11_many l  h10) w_1581 w_1583 w_44 w_115 w_1584 hd_X11_many ⟨rfl, rfl, Nat.le_of_ble_eq_true rfl, Nat.le_of_ble_eq_true rfl, Nat.zero_le _, Nat.zero_le _⟩ hP hD hS lk_X11 rfl hl.1 rfl (Nat.le_of_ble_eq_true rfl) dX11_cuts_10) (fun H locs hP hD hS => ?_)
    refine lv_iconst (v := (1 : Int32)) hx hb dX11_cuts_13 (by decide) ?_
    refine lv_isub hx hb dX11_cuts_14 ?_
    refine lv_imul hx hb dX11_cuts_15 ?_
    refine lv_iadd hx hb dX11_cuts_16 ?_
    refine lv_icmp_ge (tgt := 40) hx hb dX11_cuts_17 (by decide) (fun c15 => ?_) (fun c15 => ?_)
    · replace hf := xsBr_t c15 hf
      have ez := hx4 _ (Option.some.inj hf).symm
      subst ez
      exact K4 y3 hk4 H locs ls hP hD hS (lv_sub hl [0] rfl)
    · replace hf := xsBr_f c15 hf
      refine lv_aload_n hx hb dX11_cuts_20 rfl (lv_at hl 0 rfl) ?_
      refine xg_X11_13 C hP dX11_cuts_21 ?_
      refine lv_iload_n hx hb dX11_cuts_24 rfl (lv_at hl 1 rfl) ?_
      refine lv_aload_n hx hb dX11_cuts_25 rfl (lv_at hl 0 rfl) ?_
      refine xg_X11_13 C hP dX11_cuts_26 ?_
      refine lv_iload_n hx hb dX11_cuts_29 rfl (lv_at hl 1 rfl) ?_
      refine lv_iconst (v := (5 : Int32)) hx hb dX11_cuts_30 (by decide) ?_
      refine lv_iadd hx hb dX11_cuts_31 ?_
      replace hf := xsCk_use hf
      obtain ⟨h11, hf⟩ := hf
      refine xl_mWorld C hP h11 dX11_cuts_32 ?_
      replace hf := xsCk_use hf
      obtain ⟨h12, hf⟩ := hf
      refine xs_mWorld C hP hD hS h12 dX11_cuts_33 (fun f13 ef13 H locs hP hD hS => ?_)
      replace hf := xsLt_use ef13 hf
      obtain ⟨x14, ex14⟩ : ∃ y : Int32, y = y2 + (1 : Int32) := ⟨_, rfl⟩
      replace hf := xsLt_use ex14 hf
      refine lv_iinc (v := x14) (lv' := [(2, .int x14), (0, .ref (xsA X 100))]) hx hb dX11_cuts_34 hl (k := 1) rfl (by rw [ex14]; rfl) (by decide) rfl (fun ls hl => ?_)
      refine lv_goto (tgt := 6) hx hb dX11_cuts_37 (by decide) ?_
      exact ih4 _ (Option.some.inj hf).symm hk4 H locs ls hP hD hS (lv_sub hl [1, 0] rfl)
  exact L4 (x1, mWorld) r4 hk40 hf H locs ls hP hD hS (lv_sub hl [1, 0] rfl)
set_option maxRecDepth 100000 in
set_option maxHeartbeats 8000000 in
theorem mX11_canMove (l : Launch) {X : xsX} {mThrown mRemembered mHasImage mIsLaid mEvents mCrossings mEdges mTaped mPoint mEnd mBegin mFaultAt mActs : Int32} {mWorld mImage mDraft mEarlier mOne mTwo mShare mCrossingOf mBundle mEventOf mDegree mFrom mTo mMet mTape mFive mTold mFar mViews mHullX mHullY mEndX mEndY mMeets mMeetsOf : Nat → Int32} {mX mY mD mHeightUp mHeightLow : Int64} {mEventX mEventY mEventD mUpper mLower : Nat → Int64} {Rw : va_W} {a0 : Int32} {a1 : Int32} {a2 : Int32} {out : Int32} (hf : fX11_canMove mWorld a0 a1 a2 = some out) : Met l yX11_canMove (xsWs yX11_canMove cX11_canMove 4 (some .boolean)) { frames := 1, cells := 0, slots := 0, locals := 25 } (xsP X (wM X mThrown mWorld mImage mDraft mEarlier mRemembered mHasImage mIsLaid mOne mTwo mShare mX mY mD mEventX mEventY mEventD mEvents mCrossingOf mBundle mEventOf mDegree mFrom mTo mCrossings mEdges mMet mUpper mLower mTape mTaped mPoint mEnd mBegin mFaultAt mFive mTold mActs mFar mViews mHullX mHullY mEndX mEndY mHeightUp mHeightLow mMeets mMeetsOf Rw) [.ref (xsA X 100), .int a0, .int a1, .int a2]) (xsQi X out (wM X mThrown mWorld mImage mDraft mEarlier mRemembered mHasImage mIsLaid mOne mTwo mShare mX mY mD mEventX mEventY mEventD mEvents mCrossingOf mBundle mEventOf mDegree mFrom mTo mCrossings mEdges mMet mUpper mLower mTape mTaped mPoint mEnd mBegin mFaultAt mFive mTold mActs mFar mViews mHullX mHullY mEndX mEndY mHeightUp mHeightLow mMeets mMeetsOf Rw)) 0 0 (xsF X) := by
  refine xs_meth RX11 (by decide) rfl (Nat.le_of_ble_eq_true rfl) ?_
  intro p e s m below meth c ls H locs C hP hD hS hr hlk hl
  have hx := C.1
  have hb := C.2.1
  have hl : lv_has ls 4 [(0, .ref (xsA X 100)), (1, .int a0), (2, .int a1), (3, .int a2)] := hl
  obtain ⟨Qq, hQq⟩ : ∃ Qq, Qq = xsQi X out (wM X mThrown mWorld mImage mDraft mEarlier mRemembered mHasImage mIsLaid mOne mTwo mShare mX mY mD mEventX mEventY mEventD mEvents mCrossingOf mBundle mEventOf mDegree mFrom mTo mCrossings mEdges mMet mUpper mLower mTape mTaped mPoint mEnd mBegin mFaultAt mFive mTold mActs mFar mViews mHullX mHullY mEndX mEndY mHeightUp mHeightLow mMeets mMeetsOf Rw) := ⟨_, rfl⟩
  rw [← hQq]
  unfold fX11_canMove at hf
  refine lv_aload_n hx hb dX11_canMove_0 rfl (lv_at hl 0 rfl) ?_
  refine lv_iload_n hx hb dX11_canMove_1 rfl (lv_at hl 1 rfl) ?_
  refine lv_iconst (v := (0 : Int32)) hx hb dX11_canMove_2 (by decide) ?_
  replace hf := xsBd_use hf
  obtain ⟨o1, h2, hf⟩ := hf
  refine xs_calli hS (xs_runV (As := [.int a0, .int (0 : Int32)]) C (mX11_of l  h2) w_1608 w_1610 w_50 w_115 w_1611 hd_X11_of ⟨rfl, rfl, Nat.le_of_ble_eq_true rfl, Nat.le_of_ble_eq_true rfl, Nat.zero_le _, Nat.zero_le _⟩ hP hD hS lk_X11 rfl hl.1 rfl (Nat.le_of_ble_eq_true rfl) dX11_canMove_3) (fun H locs hP hD hS => ?_)
  refine lv_i2l hx hb dX11_canMove_6 rfl ?_
  refine lv_iload_n hx hb dX11_canMove_7 rfl (lv_at hl 2 rfl) ?_
  refine lv_i2l hx hb dX11_canMove_8 rfl ?_
  refine lv_ladd hx hb dX11_canMove_9 ?_
  refine lv_ldc2 (v := (-999 : Int64)) hx hb C.2.2.2.1 (xs_kts C _ w_1612) dX11_canMove_10 ?_
  refine lv_ldc2 (v := (999 : Int64)) hx hb C.2.2.2.1 (xs_kts C _ w_1613) dX11_canMove_13 ?_
  replace hf := xsBd_use hf
  obtain ⟨o3, h4, hf⟩ := hf
  refine xs_calli hS (xs_runS (As := [.long (o1.toInt64 + a1.toInt64), .long (-999 : Int64), .long (999 : Int64)]) C (mX11_in l  h4) w_1573 w_1574 w_115 w_1575 hd_X11_in ⟨rfl, rfl, Nat.le_of_ble_eq_true rfl, Nat.le_of_ble_eq_true rfl, Nat.zero_le _, Nat.zero_le _⟩ hP hD hS hl.1 rfl (Nat.le_of_ble_eq_true rfl) dX11_canMove_16) (fun H locs hP hD hS => ?_)
  refine lv_if_eq (tgt := 92) hx hb dX11_canMove_19 (by decide) (fun c20 => ?_) (fun c20 => ?_)
  · replace hf := xsBr_t c20 hf
    refine lv_iconst (v := (0 : Int32)) hx hb dX11_canMove_92 (by decide) ?_
    have ho := Option.some.inj hf
    subst ho
    rw [hQq]
    exact xs_zret C hr hlk xsB_0 hP hD hS dX11_canMove_93
  · replace hf := xsBr_f c20 hf
    refine lv_aload_n hx hb dX11_canMove_22 rfl (lv_at hl 0 rfl) ?_
    refine lv_iload_n hx hb dX11_canMove_23 rfl (lv_at hl 1 rfl) ?_
    refine lv_iconst (v := (2 : Int32)) hx hb dX11_canMove_24 (by decide) ?_
    replace hf := xsBd_use hf
    obtain ⟨o5, h6, hf⟩ := hf
    refine xs_calli hS (xs_runV (As := [.int a0, .int (2 : Int32)]) C (mX11_of l  h6) w_1608 w_1610 w_50 w_115 w_1611 hd_X11_of ⟨rfl, rfl, Nat.le_of_ble_eq_true rfl, Nat.le_of_ble_eq_true rfl, Nat.zero_le _, Nat.zero_le _⟩ hP hD hS lk_X11 rfl hl.1 rfl (Nat.le_of_ble_eq_true rfl) dX11_canMove_25) (fun H locs hP hD hS => ?_)
    refine lv_i2l hx hb dX11_canMove_28 rfl ?_
    refine lv_iload_n hx hb dX11_canMove_29 rfl (lv_at hl 2 rfl) ?_
    refine lv_i2l hx hb dX11_canMove_30 rfl ?_
    refine lv_ladd hx hb dX11_canMove_31 ?_
    refine lv_ldc2 (v := (-999 : Int64)) hx hb C.2.2.2.1 (xs_kts C _ w_1612) dX11_canMove_32 ?_
    refine lv_ldc2 (v := (999 : Int64)) hx hb C.2.2.2.1 (xs_kts C _ w_1613) dX11_canMove_35 ?_
    replace hf := xsBd_use hf
    obtain ⟨o7, h8, hf⟩ := hf
    refine xs_calli hS (xs_runS (As := [.long (o5.toInt64 + a1.toInt64), .long (-999 : Int64), .long (999 : Int64)]) C (mX11_in l  h8) w_1573 w_1574 w_115 w_1575 hd_X11_in ⟨rfl, rfl, Nat.le_of_ble_eq_true rfl, Nat.le_of_ble_eq_true rfl, Nat.zero_le _, Nat.zero_le _⟩ hP hD hS hl.1 rfl (Nat.le_of_ble_eq_true rfl) dX11_canMove_38) (fun H locs hP hD hS => ?_)
    refine lv_if_eq (tgt := 92) hx hb dX11_canMove_41 (by decide) (fun c19 => ?_) (fun c19 => ?_)
    · replace hf := xsBr_t c19 hf
      refine lv_iconst (v := (0 : Int32)) hx hb dX11_canMove_92 (by decide) ?_
      have ho := Option.some.inj hf
      subst ho
      rw [hQq]
      exact xs_zret C hr hlk xsB_0 hP hD hS dX11_canMove_93
    · replace hf := xsBr_f c19 hf
      refine lv_aload_n hx hb dX11_canMove_44 rfl (lv_at hl 0 rfl) ?_
      refine lv_iload_n hx hb dX11_canMove_45 rfl (lv_at hl 1 rfl) ?_
      refine lv_iconst (v := (1 : Int32)) hx hb dX11_canMove_46 (by decide) ?_
      replace hf := xsBd_use hf
      obtain ⟨o9, h10, hf⟩ := hf
      refine xs_calli hS (xs_runV (As := [.int a0, .int (1 : Int32)]) C (mX11_of l  h10) w_1608 w_1610 w_50 w_115 w_1611 hd_X11_of ⟨rfl, rfl, Nat.le_of_ble_eq_true rfl, Nat.le_of_ble_eq_true rfl, Nat.zero_le _, Nat.zero_le _⟩ hP hD hS lk_X11 rfl hl.1 rfl (Nat.le_of_ble_eq_true rfl) dX11_canMove_47) (fun H locs hP hD hS => ?_)
      refine lv_i2l hx hb dX11_canMove_50 rfl ?_
      refine lv_iload_n hx hb dX11_canMove_51 rfl (lv_at hl 3 rfl) ?_
      refine lv_i2l hx hb dX11_canMove_52 rfl ?_
      refine lv_ladd hx hb dX11_canMove_53 ?_
      refine lv_ldc2 (v := (-999 : Int64)) hx hb C.2.2.2.1 (xs_kts C _ w_1612) dX11_canMove_54 ?_
      refine lv_ldc2 (v := (999 : Int64)) hx hb C.2.2.2.1 (xs_kts C _ w_1613) dX11_canMove_57 ?_
      replace hf := xsBd_use hf
      obtain ⟨o11, h12, hf⟩ := hf
      refine xs_calli hS (xs_runS (As := [.long (o9.toInt64 + a2.toInt64), .long (-999 : Int64), .long (999 : Int64)]) C (mX11_in l  h12) w_1573 w_1574 w_115 w_1575 hd_X11_in ⟨rfl, rfl, Nat.le_of_ble_eq_true rfl, Nat.le_of_ble_eq_true rfl, Nat.zero_le _, Nat.zero_le _⟩ hP hD hS hl.1 rfl (Nat.le_of_ble_eq_true rfl) dX11_canMove_60) (fun H locs hP hD hS => ?_)
      refine lv_if_eq (tgt := 92) hx hb dX11_canMove_63 (by decide) (fun c18 => ?_) (fun c18 => ?_)
      · replace hf := xsBr_t c18 hf
        refine lv_iconst (v := (0 : Int32)) hx hb dX11_canMove_92 (by decide) ?_
        have ho := Option.some.inj hf
        subst ho
        rw [hQq]
        exact xs_zret C hr hlk xsB_0 hP hD hS dX11_canMove_93
      · replace hf := xsBr_f c18 hf
        refine lv_aload_n hx hb dX11_canMove_66 rfl (lv_at hl 0 rfl) ?_
        refine lv_iload_n hx hb dX11_canMove_67 rfl (lv_at hl 1 rfl) ?_
        refine lv_iconst (v := (3 : Int32)) hx hb dX11_canMove_68 (by decide) ?_
        replace hf := xsBd_use hf
        obtain ⟨o13, h14, hf⟩ := hf
        refine xs_calli hS (xs_runV (As := [.int a0, .int (3 : Int32)]) C (mX11_of l  h14) w_1608 w_1610 w_50 w_115 w_1611 hd_X11_of ⟨rfl, rfl, Nat.le_of_ble_eq_true rfl, Nat.le_of_ble_eq_true rfl, Nat.zero_le _, Nat.zero_le _⟩ hP hD hS lk_X11 rfl hl.1 rfl (Nat.le_of_ble_eq_true rfl) dX11_canMove_69) (fun H locs hP hD hS => ?_)
        refine lv_i2l hx hb dX11_canMove_72 rfl ?_
        refine lv_iload_n hx hb dX11_canMove_73 rfl (lv_at hl 3 rfl) ?_
        refine lv_i2l hx hb dX11_canMove_74 rfl ?_
        refine lv_ladd hx hb dX11_canMove_75 ?_
        refine lv_ldc2 (v := (-999 : Int64)) hx hb C.2.2.2.1 (xs_kts C _ w_1612) dX11_canMove_76 ?_
        refine lv_ldc2 (v := (999 : Int64)) hx hb C.2.2.2.1 (xs_kts C _ w_1613) dX11_canMove_79 ?_
        replace hf := xsBd_use hf
        obtain ⟨o15, h16, hf⟩ := hf
        refine xs_calli hS (xs_runS (As := [.long (o13.toInt64 + a2.toInt64), .long (-999 : Int64), .long (999 : Int64)]) C (mX11_in l  h16) w_1573 w_1574 w_115 w_1575 hd_X11_in ⟨rfl, rfl, Nat.le_of_ble_eq_true rfl, Nat.le_of_ble_eq_true rfl, Nat.zero_le _, Nat.zero_le _⟩ hP hD hS hl.1 rfl (Nat.le_of_ble_eq_true rfl) dX11_canMove_82) (fun H locs hP hD hS => ?_)
        refine lv_if_eq (tgt := 92) hx hb dX11_canMove_85 (by decide) (fun c17 => ?_) (fun c17 => ?_)
        · replace hf := xsBr_t c17 hf
          refine lv_iconst (v := (0 : Int32)) hx hb dX11_canMove_92 (by decide) ?_
          have ho := Option.some.inj hf
          subst ho
          rw [hQq]
          exact xs_zret C hr hlk xsB_0 hP hD hS dX11_canMove_93
        · replace hf := xsBr_f c17 hf
          refine lv_iconst (v := (1 : Int32)) hx hb dX11_canMove_88 (by decide) ?_
          refine lv_goto (tgt := 93) hx hb dX11_canMove_89 (by decide) ?_
          have ho := Option.some.inj hf
          subst ho
          rw [hQq]
          exact xs_zret C hr hlk xsB_1 hP hD hS dX11_canMove_93
set_option maxRecDepth 100000 in
set_option maxHeartbeats 8000000 in
theorem mX11_moves (l : Launch) {X : xsX} {mThrown mRemembered mHasImage mIsLaid mEvents mCrossings mEdges mTaped mPoint mEnd mBegin mFaultAt mActs : Int32} {mWorld mImage mDraft mEarlier mOne mTwo mShare mCrossingOf mBundle mEventOf mDegree mFrom mTo mMet mTape mFive mTold mFar mViews mHullX mHullY mEndX mEndY mMeets mMeetsOf : Nat → Int32} {mX mY mD mHeightUp mHeightLow : Int64} {mEventX mEventY mEventD mUpper mLower : Nat → Int64} {Rw : va_W} {a0 : Int32} {a1 : Int32} {a2 : Int32} {out : (Nat → Int32) × Int32} (hf : fX11_moves mWorld mIsLaid a0 a1 a2 = some out) : Met l yX11_moves (xsWs yX11_moves cX11_moves 4 none) { frames := 1, cells := 0, slots := 0, locals := 28 } (xsP X (wM X mThrown mWorld mImage mDraft mEarlier mRemembered mHasImage mIsLaid mOne mTwo mShare mX mY mD mEventX mEventY mEventD mEvents mCrossingOf mBundle mEventOf mDegree mFrom mTo mCrossings mEdges mMet mUpper mLower mTape mTaped mPoint mEnd mBegin mFaultAt mFive mTold mActs mFar mViews mHullX mHullY mEndX mEndY mHeightUp mHeightLow mMeets mMeetsOf Rw) [.ref (xsA X 100), .int a0, .int a1, .int a2]) (xsQv X (wM X mThrown out.1 mImage mDraft mEarlier mRemembered mHasImage out.2 mOne mTwo mShare mX mY mD mEventX mEventY mEventD mEvents mCrossingOf mBundle mEventOf mDegree mFrom mTo mCrossings mEdges mMet mUpper mLower mTape mTaped mPoint mEnd mBegin mFaultAt mFive mTold mActs mFar mViews mHullX mHullY mEndX mEndY mHeightUp mHeightLow mMeets mMeetsOf Rw)) 0 0 (xsF X) := by
  refine xs_meth RX11 (by decide) rfl (Nat.le_of_ble_eq_true rfl) ?_
  intro p e s m below meth c ls H locs C hP hD hS hr hlk hl
  have hx := C.1
  have hb := C.2.1
  have hl : lv_has ls 4 [(0, .ref (xsA X 100)), (1, .int a0), (2, .int a1), (3, .int a2)] := hl
  obtain ⟨Qq, hQq⟩ : ∃ Qq, Qq = xsQv X (wM X mThrown out.1 mImage mDraft mEarlier mRemembered mHasImage out.2 mOne mTwo mShare mX mY mD mEventX mEventY mEventD mEvents mCrossingOf mBundle mEventOf mDegree mFrom mTo mCrossings mEdges mMet mUpper mLower mTape mTaped mPoint mEnd mBegin mFaultAt mFive mTold mActs mFar mViews mHullX mHullY mEndX mEndY mHeightUp mHeightLow mMeets mMeetsOf Rw) := ⟨_, rfl⟩
  rw [← hQq]
  unfold fX11_moves at hf
  refine lv_aload_n hx hb dX11_moves_0 rfl (lv_at hl 0 rfl) ?_
  refine lv_iload_n hx hb dX11_moves_1 rfl (lv_at hl 1 rfl) ?_
  refine lv_aload_n hx hb dX11_moves_2 rfl (lv_at hl 0 rfl) ?_
  refine lv_iload_n hx hb dX11_moves_3 rfl (lv_at hl 1 rfl) ?_
  refine lv_iconst (v := (0 : Int32)) hx hb dX11_moves_4 (by decide) ?_
  replace hf := xsBd_use hf
  obtain ⟨o1, h2, hf⟩ := hf
  refine xs_calli hS (xs_runV (As := [.int a0, .int (0 : Int32)]) C (mX11_of l  h2) w_1608 w_1610 w_50 w_115 w_1611 hd_X11_of ⟨rfl, rfl, Nat.le_of_ble_eq_true rfl, Nat.le_of_ble_eq_true rfl, Nat.zero_le _, Nat.zero_le _⟩ hP hD hS lk_X11 rfl hl.1 rfl (Nat.le_of_ble_eq_true rfl) dX11_moves_5) (fun H locs hP hD hS => ?_)
  refine lv_iload_n hx hb dX11_moves_8 rfl (lv_at hl 2 rfl) ?_
  refine lv_iadd hx hb dX11_moves_9 ?_
  refine lv_aload_n hx hb dX11_moves_10 rfl (lv_at hl 0 rfl) ?_
  refine lv_iload_n hx hb dX11_moves_11 rfl (lv_at hl 1 rfl) ?_
  refine lv_iconst (v := (1 : Int32)) hx hb dX11_moves_12 (by decide) ?_
  replace hf := xsBd_use hf
  obtain ⟨o3, h4, hf⟩ := hf
  refine xs_calli hS (xs_runV (As := [.int a0, .int (1 : Int32)]) C (mX11_of l  h4) w_1608 w_1610 w_50 w_115 w_1611 hd_X11_of ⟨rfl, rfl, Nat.le_of_ble_eq_true rfl, Nat.le_of_ble_eq_true rfl, Nat.zero_le _, Nat.zero_le _⟩ hP hD hS lk_X11 rfl hl.1 rfl (Nat.le_of_ble_eq_true rfl) dX11_moves_13) (fun H locs hP hD hS => ?_)
  refine lv_iload_n hx hb dX11_moves_16 rfl (lv_at hl 3 rfl) ?_
  refine lv_iadd hx hb dX11_moves_17 ?_
  refine lv_aload_n hx hb dX11_moves_18 rfl (lv_at hl 0 rfl) ?_
  refine lv_iload_n hx hb dX11_moves_19 rfl (lv_at hl 1 rfl) ?_
  refine lv_iconst (v := (2 : Int32)) hx hb dX11_moves_20 (by decide) ?_
  replace hf := xsBd_use hf
  obtain ⟨o5, h6, hf⟩ := hf
  refine xs_calli hS (xs_runV (As := [.int a0, .int (2 : Int32)]) C (mX11_of l  h6) w_1608 w_1610 w_50 w_115 w_1611 hd_X11_of ⟨rfl, rfl, Nat.le_of_ble_eq_true rfl, Nat.le_of_ble_eq_true rfl, Nat.zero_le _, Nat.zero_le _⟩ hP hD hS lk_X11 rfl hl.1 rfl (Nat.le_of_ble_eq_true rfl) dX11_moves_21) (fun H locs hP hD hS => ?_)
  refine lv_iload_n hx hb dX11_moves_24 rfl (lv_at hl 2 rfl) ?_
  refine lv_iadd hx hb dX11_moves_25 ?_
  refine lv_aload_n hx hb dX11_moves_26 rfl (lv_at hl 0 rfl) ?_
  refine lv_iload_n hx hb dX11_moves_27 rfl (lv_at hl 1 rfl) ?_
  refine lv_iconst (v := (3 : Int32)) hx hb dX11_moves_28 (by decide) ?_
  replace hf := xsBd_use hf
  obtain ⟨o7, h8, hf⟩ := hf
  refine xs_calli hS (xs_runV (As := [.int a0, .int (3 : Int32)]) C (mX11_of l  h8) w_1608 w_1610 w_50 w_115 w_1611 hd_X11_of ⟨rfl, rfl, Nat.le_of_ble_eq_true rfl, Nat.le_of_ble_eq_true rfl, Nat.zero_le _, Nat.zero_le _⟩ hP hD hS lk_X11 rfl hl.1 rfl (Nat.le_of_ble_eq_true rfl) dX11_moves_29) (fun H locs hP hD hS => ?_)
  refine lv_iload_n hx hb dX11_moves_32 rfl (lv_at hl 3 rfl) ?_
  refine lv_iadd hx hb dX11_moves_33 ?_
  refine lv_aload_n hx hb dX11_moves_34 rfl (lv_at hl 0 rfl) ?_
  refine lv_iload_n hx hb dX11_moves_35 rfl (lv_at hl 1 rfl) ?_
  refine lv_iconst (v := (4 : Int32)) hx hb dX11_moves_36 (by decide) ?_
  replace hf := xsBd_use hf
  obtain ⟨o9, h10, hf⟩ := hf
  refine xs_calli hS (xs_runV (As := [.int a0, .int (4 : Int32)]) C (mX11_of l  h10) w_1608 w_1610 w_50 w_115 w_1611 hd_X11_of ⟨rfl, rfl, Nat.le_of_ble_eq_true rfl, Nat.le_of_ble_eq_true rfl, Nat.zero_le _, Nat.zero_le _⟩ hP hD hS lk_X11 rfl hl.1 rfl (Nat.le_of_ble_eq_true rfl) dX11_moves_37) (fun H locs hP hD hS => ?_)
  replace hf := xsBd_use hf
  obtain ⟨o11, h12, hf⟩ := hf
  refine xs_callv hS (xs_runV (As := [.int a0, .int (o1 + a1), .int (o3 + a2), .int (o5 + a1), .int (o7 + a2), .int o9]) C (mX11_puts l  h12) w_1593 w_1595 w_47 w_115 w_1596 hd_X11_puts ⟨rfl, rfl, Nat.le_of_ble_eq_true rfl, Nat.le_of_ble_eq_true rfl, Nat.zero_le _, Nat.zero_le _⟩ hP hD hS lk_X11 rfl hl.1 rfl (Nat.le_of_ble_eq_true rfl) dX11_moves_40) (fun H locs hP hD hS => ?_)
  have ho := Option.some.inj hf
  subst ho
  rw [hQq]
  exact xs_vret C hr hlk hP hD hS dX11_moves_43
set_option maxRecDepth 100000 in
set_option maxHeartbeats 8000000 in
theorem mX11_turns (l : Launch) {X : xsX} {mThrown mRemembered mHasImage mIsLaid mEvents mCrossings mEdges mTaped mPoint mEnd mBegin mFaultAt mActs : Int32} {mWorld mImage mDraft mEarlier mOne mTwo mShare mCrossingOf mBundle mEventOf mDegree mFrom mTo mMet mTape mFive mTold mFar mViews mHullX mHullY mEndX mEndY mMeets mMeetsOf : Nat → Int32} {mX mY mD mHeightUp mHeightLow : Int64} {mEventX mEventY mEventD mUpper mLower : Nat → Int64} {Rw : va_W} {out : (Nat → Int32) × Int32} (hf : fX11_turns mWorld mIsLaid = some out) : Met l yX11_turns (xsWs yX11_turns cX11_turns 2 none) { frames := 1, cells := 0, slots := 0, locals := 28 } (xsP X (wM X mThrown mWorld mImage mDraft mEarlier mRemembered mHasImage mIsLaid mOne mTwo mShare mX mY mD mEventX mEventY mEventD mEvents mCrossingOf mBundle mEventOf mDegree mFrom mTo mCrossings mEdges mMet mUpper mLower mTape mTaped mPoint mEnd mBegin mFaultAt mFive mTold mActs mFar mViews mHullX mHullY mEndX mEndY mHeightUp mHeightLow mMeets mMeetsOf Rw) [.ref (xsA X 100)]) (xsQv X (wM X mThrown out.1 mImage mDraft mEarlier mRemembered mHasImage out.2 mOne mTwo mShare mX mY mD mEventX mEventY mEventD mEvents mCrossingOf mBundle mEventOf mDegree mFrom mTo mCrossings mEdges mMet mUpper mLower mTape mTaped mPoint mEnd mBegin mFaultAt mFive mTold mActs mFar mViews mHullX mHullY mEndX mEndY mHeightUp mHeightLow mMeets mMeetsOf Rw)) 0 0 (xsF X) := by
  refine xs_meth RX11 (by decide) rfl (Nat.le_of_ble_eq_true rfl) ?_
  intro p e s m below meth c ls H locs C hP hD hS hr hlk hl
  have hx := C.1
  have hb := C.2.1
  have hl : lv_has ls 2 [(0, .ref (xsA X 100))] := hl
  obtain ⟨Qq, hQq⟩ : ∃ Qq, Qq = xsQv X (wM X mThrown out.1 mImage mDraft mEarlier mRemembered mHasImage out.2 mOne mTwo mShare mX mY mD mEventX mEventY mEventD mEvents mCrossingOf mBundle mEventOf mDegree mFrom mTo mCrossings mEdges mMet mUpper mLower mTape mTaped mPoint mEnd mBegin mFaultAt mFive mTold mActs mFar mViews mHullX mHullY mEndX mEndY mHeightUp mHeightLow mMeets mMeetsOf Rw) := ⟨_, rfl⟩
  rw [← hQq]
  unfold fX11_turns at hf
  refine lv_iconst (v := (0 : Int32)) hx hb dX11_turns_0 (by decide) ?_
  refine lv_istore_n (lv' := [(1, .int (0 : Int32)), (0, .ref (xsA X 100))]) hx hb dX11_turns_1 rfl hl (by decide) rfl (fun ls hl => ?_)
  have K4 : ∀ (y5 : Nat → Int32) (y6 : Int32) (hf : fX11_turns_J53 y5 y6 = some out) (H : Heap) (locs : List Loc) (ls : Array Slot), va_P (xsD X) vwCl (wM X mThrown y5 mImage mDraft mEarlier mRemembered mHasImage y6 mOne mTwo mShare mX mY mD mEventX mEventY mEventD mEvents mCrossingOf mBundle mEventOf mDegree mFrom mTo mCrossings mEdges mMet mUpper mLower mTape mTaped mPoint mEnd mBegin mFaultAt mFive mTold mActs mFar mViews mHullX mHullY mEndX mEndY mHeightUp mHeightLow mMeets mMeetsOf Rw) H → va_D (xsF X) (wM X mThrown y5 mImage mDraft mEarlier mRemembered mHasImage y6 mOne mTwo mShare mX mY mD mEventX mEventY mEventD mEvents mCrossingOf mBundle mEventOf mDegree mFrom mTo mCrossings mEdges mMet mUpper mLower mTape mTaped mPoint mEnd mBegin mFaultAt mFive mTold mActs mFar mViews mHullX mHullY mEndX mEndY mHeightUp mHeightLow mMeets mMeetsOf Rw) → va_S (xsF X) s.heap H locs → lv_has ls 2 [] → W p l e { frames := 1, cells := 0, slots := 0, locals := 28 } s m ([.ref (xsA X 100)] : List Value).toArray below meth c H locs 0 0 (MQ below Qq ([.ref (xsA X 100)] : List Value).toArray s 0 0 (xsF X)) (F0 m 53 ls []) := by
    intro y5 y6 hf H locs ls hP hD hS hl
    unfold fX11_turns_J53 at hf
    have ho := Option.some.inj hf
    subst ho
    rw [hQq]
    exact xs_vret C hr hlk hP hD hS dX11_turns_53
  replace hf := xsBd_use hf
  obtain ⟨r4, hk40, hf⟩ := hf
  have L4 : ∀ (sg : Int32 × (Nat → Int32) × Int32) (rg : (Nat → Int32) × Int32), xsWh (fun s4 => fX11_turns_L2 s4.1 s4.2.1 s4.2.2) sg = some rg → (fX11_turns_J53 rg.1 rg.2 = some out → ∀ (H : Heap) (locs : List Loc) (ls : Array Slot), va_P (xsD X) vwCl (wM X mThrown sg.2.1 mImage mDraft mEarlier mRemembered mHasImage sg.2.2 mOne mTwo mShare mX mY mD mEventX mEventY mEventD mEvents mCrossingOf mBundle mEventOf mDegree mFrom mTo mCrossings mEdges mMet mUpper mLower mTape mTaped mPoint mEnd mBegin mFaultAt mFive mTold mActs mFar mViews mHullX mHullY mEndX mEndY mHeightUp mHeightLow mMeets mMeetsOf Rw) H → va_D (xsF X) (wM X mThrown sg.2.1 mImage mDraft mEarlier mRemembered mHasImage sg.2.2 mOne mTwo mShare mX mY mD mEventX mEventY mEventD mEvents mCrossingOf mBundle mEventOf mDegree mFrom mTo mCrossings mEdges mMet mUpper mLower mTape mTaped mPoint mEnd mBegin mFaultAt mFive mTold mActs mFar mViews mHullX mHullY mEndX mEndY mHeightUp mHeightLow mMeets mMeetsOf Rw) → va_S (xsF X) s.heap H locs → lv_has ls 2 [(0, .ref (xsA X 100)), (1, .int sg.1)] → W p l e { frames := 1, cells := 0, slots := 0, locals := 28 } s m ([.ref (xsA X 100)] : List Value).toArray below meth c H locs 0 0 (MQ below Qq ([.ref (xsA X 100)] : List Value).toArray s 0 0 (xsF X)) (F0 m 2 ls [])) := by
    refine xsWh_ind ?_
    intro sg r4 u4 hf ih4 hx4 hk4 H locs ls hP hD hS hl
    obtain ⟨y1, y2, y3⟩ := sg
    replace hf : fX11_turns_L2 y1 y2 y3 = some u4 := hf
    replace hl : lv_has ls 2 [(0, .ref (xsA X 100)), (1, .int y1)] := hl
    replace hP : va_P (xsD X) vwCl (wM X mThrown y2 mImage mDraft mEarlier mRemembered mHasImage y3 mOne mTwo mShare mX mY mD mEventX mEventY mEventD mEvents mCrossingOf mBundle mEventOf mDegree mFrom mTo mCrossings mEdges mMet mUpper mLower mTape mTaped mPoint mEnd mBegin mFaultAt mFive mTold mActs mFar mViews mHullX mHullY mEndX mEndY mHeightUp mHeightLow mMeets mMeetsOf Rw) H := hP
    replace hD : va_D (xsF X) (wM X mThrown y2 mImage mDraft mEarlier mRemembered mHasImage y3 mOne mTwo mShare mX mY mD mEventX mEventY mEventD mEvents mCrossingOf mBundle mEventOf mDegree mFrom mTo mCrossings mEdges mMet mUpper mLower mTape mTaped mPoint mEnd mBegin mFaultAt mFive mTold mActs mFar mViews mHullX mHullY mEndX mEndY mHeightUp mHeightLow mMeets mMeetsOf Rw) := hD
    unfold fX11_turns_L2 at hf
    refine lv_iload_n hx hb dX11_turns_2 rfl (lv_at hl 1 rfl) ?_
    refine lv_aload_n hx hb dX11_turns_3 rfl (lv_at hl 0 rfl) ?_
    replace hf := xsBd_use hf
    obtain ⟨o7, h8, hf⟩ := hf
    refine xs_calli hS (xs_runV (As := []) C (mX11_many l  h8) w_1581 w_1583 w_44 w_115 w_1584 hd_X11_many ⟨rfl, rfl, Nat.le_of_ble_eq_true rfl, Nat.le_of_ble_eq_true rfl, Nat.zero_le _, Nat.zero_le _⟩ hP hD hS lk_X11 rfl hl.1 rfl (Nat.le_of_ble_eq_true rfl) dX11_turns_4) (fun H locs hP hD hS => ?_)
    refine lv_icmp_ge (tgt := 53) hx hb dX11_turns_7 (by decide) (fun c22 => ?_) (fun c22 => ?_)
    · replace hf := xsBr_t c22 hf
      have ez := hx4 _ (Option.some.inj hf).symm
      subst ez
      exact K4 y2 y3 hk4 H locs ls hP hD hS (lv_sub hl [] rfl)
    · replace hf := xsBr_f c22 hf
      refine lv_aload_n hx hb dX11_turns_10 rfl (lv_at hl 0 rfl) ?_
      refine lv_iload_n hx hb dX11_turns_11 rfl (lv_at hl 1 rfl) ?_
      refine lv_aload_n hx hb dX11_turns_12 rfl (lv_at hl 0 rfl) ?_
      refine lv_iload_n hx hb dX11_turns_13 rfl (lv_at hl 1 rfl) ?_
      refine lv_iconst (v := (1 : Int32)) hx hb dX11_turns_14 (by decide) ?_
      replace hf := xsBd_use hf
      obtain ⟨o9, h10, hf⟩ := hf
      refine xs_calli hS (xs_runV (As := [.int y1, .int (1 : Int32)]) C (mX11_of l  h10) w_1608 w_1610 w_50 w_115 w_1611 hd_X11_of ⟨rfl, rfl, Nat.le_of_ble_eq_true rfl, Nat.le_of_ble_eq_true rfl, Nat.zero_le _, Nat.zero_le _⟩ hP hD hS lk_X11 rfl hl.1 rfl (Nat.le_of_ble_eq_true rfl) dX11_turns_15) (fun H locs hP hD hS => ?_)
      refine lv_ineg hx hb dX11_turns_18 ?_
      refine lv_aload_n hx hb dX11_turns_19 rfl (lv_at hl 0 rfl) ?_
      refine lv_iload_n hx hb dX11_turns_20 rfl (lv_at hl 1 rfl) ?_
      refine lv_iconst (v := (0 : Int32)) hx hb dX11_turns_21 (by decide) ?_
      replace hf := xsBd_use hf
      obtain ⟨o11, h12, hf⟩ := hf
      refine xs_calli hS (xs_runV (As := [.int y1, .int (0 : Int32)]) C (mX11_of l  h12) w_1608 w_1610 w_50 w_115 w_1611 hd_X11_of ⟨rfl, rfl, Nat.le_of_ble_eq_true rfl, Nat.le_of_ble_eq_true rfl, Nat.zero_le _, Nat.zero_le _⟩ hP hD hS lk_X11 rfl hl.1 rfl (Nat.le_of_ble_eq_true rfl) dX11_turns_22) (fun H locs hP hD hS => ?_)
      refine lv_aload_n hx hb dX11_turns_25 rfl (lv_at hl 0 rfl) ?_
      refine lv_iload_n hx hb dX11_turns_26 rfl (lv_at hl 1 rfl) ?_
      refine lv_iconst (v := (3 : Int32)) hx hb dX11_turns_27 (by decide) ?_
      replace hf := xsBd_use hf
      obtain ⟨o13, h14, hf⟩ := hf
      refine xs_calli hS (xs_runV (As := [.int y1, .int (3 : Int32)]) C (mX11_of l  h14) w_1608 w_1610 w_50 w_115 w_1611 hd_X11_of ⟨rfl, rfl, Nat.le_of_ble_eq_true rfl, Nat.le_of_ble_eq_true rfl, Nat.zero_le _, Nat.zero_le _⟩ hP hD hS lk_X11 rfl hl.1 rfl (Nat.le_of_ble_eq_true rfl) dX11_turns_28) (fun H locs hP hD hS => ?_)
      refine lv_ineg hx hb dX11_turns_31 ?_
      refine lv_aload_n hx hb dX11_turns_32 rfl (lv_at hl 0 rfl) ?_
      refine lv_iload_n hx hb dX11_turns_33 rfl (lv_at hl 1 rfl) ?_
      refine lv_iconst (v := (2 : Int32)) hx hb dX11_turns_34 (by decide) ?_
      replace hf := xsBd_use hf
      obtain ⟨o15, h16, hf⟩ := hf
      refine xs_calli hS (xs_runV (As := [.int y1, .int (2 : Int32)]) C (mX11_of l  h16) w_1608 w_1610 w_50 w_115 w_1611 hd_X11_of ⟨rfl, rfl, Nat.le_of_ble_eq_true rfl, Nat.le_of_ble_eq_true rfl, Nat.zero_le _, Nat.zero_le _⟩ hP hD hS lk_X11 rfl hl.1 rfl (Nat.le_of_ble_eq_true rfl) dX11_turns_35) (fun H locs hP hD hS => ?_)
      refine lv_aload_n hx hb dX11_turns_38 rfl (lv_at hl 0 rfl) ?_
      refine lv_iload_n hx hb dX11_turns_39 rfl (lv_at hl 1 rfl) ?_
      refine lv_iconst (v := (4 : Int32)) hx hb dX11_turns_40 (by decide) ?_
      replace hf := xsBd_use hf
      obtain ⟨o17, h18, hf⟩ := hf
      refine xs_calli hS (xs_runV (As := [.int y1, .int (4 : Int32)]) C (mX11_of l  h18) w_1608 w_1610 w_50 w_115 w_1611 hd_X11_of ⟨rfl, rfl, Nat.le_of_ble_eq_true rfl, Nat.le_of_ble_eq_true rfl, Nat.zero_le _, Nat.zero_le _⟩ hP hD hS lk_X11 rfl hl.1 rfl (Nat.le_of_ble_eq_true rfl) dX11_turns_41) (fun H locs hP hD hS => ?_)
      replace hf := xsBd_use hf
      obtain ⟨o19, h20, hf⟩ := hf
      refine xs_callv hS (xs_runV (As := [.int y1, .int (-o9), .int o11, .int (-o13), .int o15, .int o17]) C (mX11_puts l  h20) w_1593 w_1595 w_47 w_115 w_1596 hd_X11_puts ⟨rfl, rfl, Nat.le_of_ble_eq_true rfl, Nat.le_of_ble_eq_true rfl, Nat.zero_le _, Nat.zero_le _⟩ hP hD hS lk_X11 rfl hl.1 rfl (Nat.le_of_ble_eq_true rfl) dX11_turns_44) (fun H locs hP hD hS => ?_)
      obtain ⟨x21, ex21⟩ : ∃ y : Int32, y = y1 + (1 : Int32) := ⟨_, rfl⟩
      replace hf := xsLt_use ex21 hf
      refine lv_iinc (v := x21) (lv' := [(1, .int x21), (0, .ref (xsA X 100))]) hx hb dX11_turns_47 hl (k := 1) rfl (by rw [ex21]; rfl) (by decide) rfl (fun ls hl => ?_)
      refine lv_goto (tgt := 2) hx hb dX11_turns_50 (by decide) ?_
      exact ih4 _ (Option.some.inj hf).symm hk4 H locs ls hP hD hS (lv_sub hl [1, 0] rfl)
  exact L4 ((0 : Int32), mWorld, mIsLaid) r4 hk40 hf H locs ls hP hD hS (lv_sub hl [1, 0] rfl)
set_option maxRecDepth 100000 in
set_option maxHeartbeats 8000000 in
theorem mX11_isPlace (l : Launch) {X : xsX} {w : va_W} {a0 : Int32} {a1 : Int32} {out : Int32} (hf : fX11_isPlace a0 a1 = some out) : Met l yX11_isPlace (xsWs yX11_isPlace cX11_isPlace 2 (some .boolean)) { frames := 1, cells := 0, slots := 0, locals := 25 } (xsP X (w) [.int a0, .int a1]) (xsQi X out (w)) 0 0 (xsF X) := by
  refine xs_meth RX11 (by decide) rfl (Nat.le_of_ble_eq_true rfl) ?_
  intro p e s m below meth c ls H locs C hP hD hS hr hlk hl
  have hx := C.1
  have hb := C.2.1
  have hl : lv_has ls 2 [(0, .int a0), (1, .int a1)] := hl
  obtain ⟨Qq, hQq⟩ : ∃ Qq, Qq = xsQi X out (w) := ⟨_, rfl⟩
  rw [← hQq]
  unfold fX11_isPlace at hf
  refine lv_iload_n hx hb dX11_isPlace_0 rfl (lv_at hl 0 rfl) ?_
  refine lv_i2l hx hb dX11_isPlace_1 rfl ?_
  refine lv_ldc2 (v := (-999 : Int64)) hx hb C.2.2.2.1 (xs_kts C _ w_1612) dX11_isPlace_2 ?_
  refine lv_ldc2 (v := (999 : Int64)) hx hb C.2.2.2.1 (xs_kts C _ w_1613) dX11_isPlace_5 ?_
  replace hf := xsBd_use hf
  obtain ⟨o1, h2, hf⟩ := hf
  refine xs_calli hS (xs_runS (As := [.long a0.toInt64, .long (-999 : Int64), .long (999 : Int64)]) C (mX11_in l  h2) w_1573 w_1574 w_115 w_1575 hd_X11_in ⟨rfl, rfl, Nat.le_of_ble_eq_true rfl, Nat.le_of_ble_eq_true rfl, Nat.zero_le _, Nat.zero_le _⟩ hP hD hS hl.1 rfl (Nat.le_of_ble_eq_true rfl) dX11_isPlace_8) (fun H locs hP hD hS => ?_)
  refine lv_if_eq (tgt := 32) hx hb dX11_isPlace_11 (by decide) (fun c6 => ?_) (fun c6 => ?_)
  · replace hf := xsBr_t c6 hf
    refine lv_iconst (v := (0 : Int32)) hx hb dX11_isPlace_32 (by decide) ?_
    have ho := Option.some.inj hf
    subst ho
    rw [hQq]
    exact xs_zret C hr hlk xsB_0 hP hD hS dX11_isPlace_33
  · replace hf := xsBr_f c6 hf
    refine lv_iload_n hx hb dX11_isPlace_14 rfl (lv_at hl 1 rfl) ?_
    refine lv_i2l hx hb dX11_isPlace_15 rfl ?_
    refine lv_ldc2 (v := (-999 : Int64)) hx hb C.2.2.2.1 (xs_kts C _ w_1612) dX11_isPlace_16 ?_
    refine lv_ldc2 (v := (999 : Int64)) hx hb C.2.2.2.1 (xs_kts C _ w_1613) dX11_isPlace_19 ?_
    replace hf := xsBd_use hf
    obtain ⟨o3, h4, hf⟩ := hf
    refine xs_calli hS (xs_runS (As := [.long a1.toInt64, .long (-999 : Int64), .long (999 : Int64)]) C (mX11_in l  h4) w_1573 w_1574 w_115 w_1575 hd_X11_in ⟨rfl, rfl, Nat.le_of_ble_eq_true rfl, Nat.le_of_ble_eq_true rfl, Nat.zero_le _, Nat.zero_le _⟩ hP hD hS hl.1 rfl (Nat.le_of_ble_eq_true rfl) dX11_isPlace_22) (fun H locs hP hD hS => ?_)
    refine lv_if_eq (tgt := 32) hx hb dX11_isPlace_25 (by decide) (fun c5 => ?_) (fun c5 => ?_)
    · replace hf := xsBr_t c5 hf
      refine lv_iconst (v := (0 : Int32)) hx hb dX11_isPlace_32 (by decide) ?_
      have ho := Option.some.inj hf
      subst ho
      rw [hQq]
      exact xs_zret C hr hlk xsB_0 hP hD hS dX11_isPlace_33
    · replace hf := xsBr_f c5 hf
      refine lv_iconst (v := (1 : Int32)) hx hb dX11_isPlace_28 (by decide) ?_
      refine lv_goto (tgt := 33) hx hb dX11_isPlace_29 (by decide) ?_
      have ho := Option.some.inj hf
      subst ho
      rw [hQq]
      exact xs_zret C hr hlk xsB_1 hP hD hS dX11_isPlace_33
set_option maxRecDepth 100000 in
set_option maxHeartbeats 8000000 in
theorem mX11_add (l : Launch) {X : xsX} {mThrown mRemembered mHasImage mIsLaid mEvents mCrossings mEdges mTaped mPoint mEnd mBegin mFaultAt mActs : Int32} {mWorld mImage mDraft mEarlier mOne mTwo mShare mCrossingOf mBundle mEventOf mDegree mFrom mTo mMet mTape mFive mTold mFar mViews mHullX mHullY mEndX mEndY mMeets mMeetsOf : Nat → Int32} {mX mY mD mHeightUp mHeightLow : Int64} {mEventX mEventY mEventD mUpper mLower : Nat → Int64} {Rw : va_W} {a0 : Int32} {a1 : Int32} {a2 : Int32} {a3 : Int32} {a4 : Int32} {out : Int32 × Int32 × (Nat → Int32) × (Nat → Int32) × Int32 × Int32} (hf : fX11_add mThrown mWorld mEarlier mRemembered mIsLaid a0 a1 a2 a3 a4 = some out) : Met l yX11_add (xsWs yX11_add cX11_add 6 (some .int)) { frames := 2, cells := 0, slots := 0, locals := 54 } (xsP X (wM X mThrown mWorld mImage mDraft mEarlier mRemembered mHasImage mIsLaid mOne mTwo mShare mX mY mD mEventX mEventY mEventD mEvents mCrossingOf mBundle mEventOf mDegree mFrom mTo mCrossings mEdges mMet mUpper mLower mTape mTaped mPoint mEnd mBegin mFaultAt mFive mTold mActs mFar mViews mHullX mHullY mEndX mEndY mHeightUp mHeightLow mMeets mMeetsOf Rw) [.ref (xsA X 100), .int a0, .int a1, .int a2, .int a3, .int a4]) (xsQi X out.1 (wM X out.2.1 out.2.2.1 mImage mDraft out.2.2.2.1 out.2.2.2.2.1 mHasImage out.2.2.2.2.2 mOne mTwo mShare mX mY mD mEventX mEventY mEventD mEvents mCrossingOf mBundle mEventOf mDegree mFrom mTo mCrossings mEdges mMet mUpper mLower mTape mTaped mPoint mEnd mBegin mFaultAt mFive mTold mActs mFar mViews mHullX mHullY mEndX mEndY mHeightUp mHeightLow mMeets mMeetsOf Rw)) 0 0 (xsF X) := by
  refine xs_meth RX11 (by decide) rfl (Nat.le_of_ble_eq_true rfl) ?_
  intro p e s m below meth c ls H locs C hP hD hS hr hlk hl
  have hx := C.1
  have hb := C.2.1
  have hl : lv_has ls 6 [(0, .ref (xsA X 100)), (1, .int a0), (2, .int a1), (3, .int a2), (4, .int a3), (5, .int a4)] := hl
  obtain ⟨Qq, hQq⟩ : ∃ Qq, Qq = xsQi X out.1 (wM X out.2.1 out.2.2.1 mImage mDraft out.2.2.2.1 out.2.2.2.2.1 mHasImage out.2.2.2.2.2 mOne mTwo mShare mX mY mD mEventX mEventY mEventD mEvents mCrossingOf mBundle mEventOf mDegree mFrom mTo mCrossings mEdges mMet mUpper mLower mTape mTaped mPoint mEnd mBegin mFaultAt mFive mTold mActs mFar mViews mHullX mHullY mEndX mEndY mHeightUp mHeightLow mMeets mMeetsOf Rw) := ⟨_, rfl⟩
  rw [← hQq]
  unfold fX11_add at hf
  refine lv_aload_n hx hb dX11_add_0 rfl (lv_at hl 0 rfl) ?_
  refine lv_iconst (v := (0 : Int32)) hx hb dX11_add_1 (by decide) ?_
  refine xp_X11_3 C hP hD hS dX11_add_2 (fun H locs hP hD hS => ?_)
  refine lv_aload_n hx hb dX11_add_5 rfl (lv_at hl 0 rfl) ?_
  refine lv_iload_n hx hb dX11_add_6 rfl (lv_at hl 1 rfl) ?_
  refine lv_iload_n hx hb dX11_add_7 rfl (lv_at hl 2 rfl) ?_
  replace hf := xsBd_use hf
  obtain ⟨o1, h2, hf⟩ := hf
  refine xs_calli hS (xs_runS (As := [.int a0, .int a1]) C (mX11_isPlace l  h2) w_1627 w_1628 w_115 w_1629 hd_X11_isPlace ⟨rfl, rfl, Nat.le_of_ble_eq_true rfl, Nat.le_of_ble_eq_true rfl, Nat.zero_le _, Nat.zero_le _⟩ hP hD hS hl.1 rfl (Nat.le_of_ble_eq_true rfl) dX11_add_8) (fun H locs hP hD hS => ?_)
  have K23 : ∀ (y3 : Int32) (hf : fX11_add_J41 mWorld mEarlier mRemembered mIsLaid a0 a1 a2 a3 a4 y3 = some out) (H : Heap) (locs : List Loc) (ls : Array Slot), va_P (xsD X) vwCl (wM X (0 : Int32) mWorld mImage mDraft mEarlier mRemembered mHasImage mIsLaid mOne mTwo mShare mX mY mD mEventX mEventY mEventD mEvents mCrossingOf mBundle mEventOf mDegree mFrom mTo mCrossings mEdges mMet mUpper mLower mTape mTaped mPoint mEnd mBegin mFaultAt mFive mTold mActs mFar mViews mHullX mHullY mEndX mEndY mHeightUp mHeightLow mMeets mMeetsOf Rw) H → va_D (xsF X) (wM X (0 : Int32) mWorld mImage mDraft mEarlier mRemembered mHasImage mIsLaid mOne mTwo mShare mX mY mD mEventX mEventY mEventD mEvents mCrossingOf mBundle mEventOf mDegree mFrom mTo mCrossings mEdges mMet mUpper mLower mTape mTaped mPoint mEnd mBegin mFaultAt mFive mTold mActs mFar mViews mHullX mHullY mEndX mEndY mHeightUp mHeightLow mMeets mMeetsOf Rw) → va_S (xsF X) s.heap H locs → lv_has ls 6 [(0, .ref (xsA X 100)), (1, .int a0), (2, .int a1), (3, .int a2), (4, .int a3), (5, .int a4)] → W p l e { frames := 2, cells := 0, slots := 0, locals := 54 } s m ([.ref (xsA X 100), .int a0, .int a1, .int a2, .int a3, .int a4] : List Value).toArray below meth c H locs 0 0 (MQ below Qq ([.ref (xsA X 100), .int a0, .int a1, .int a2, .int a3, .int a4] : List Value).toArray s 0 0 (xsF X)) (F0 m 41 ls [.int y3, .ref (xsA X 100)]) := by
    intro y3 hf H locs ls hP hD hS hl
    unfold fX11_add_J41 at hf
    refine lv_iconst (v := (1 : Int32)) hx hb dX11_add_41 (by decide) ?_
    replace hf := xsBd_use hf
    obtain ⟨o4, h5, hf⟩ := hf
    refine xs_calli hS (xs_runV (As := [.int y3, .int (1 : Int32)]) C (mX11_throwsIf l  h5) w_1502 w_1504 w_33 w_115 w_1505 hd_X11_throwsIf ⟨rfl, rfl, Nat.le_of_ble_eq_true rfl, Nat.le_of_ble_eq_true rfl, Nat.zero_le _, Nat.zero_le _⟩ hP hD hS lk_X11 rfl hl.1 rfl (Nat.le_of_ble_eq_true rfl) dX11_add_42) (fun H locs hP hD hS => ?_)
    refine lv_if_ne (tgt := 70) hx hb dX11_add_45 (by decide) (fun c20 => ?_) (fun c20 => ?_)
    · replace hf := xsBr_f c20 hf
      refine lv_iconst (v := (0 : Int32)) hx hb dX11_add_70 (by decide) ?_
      have ho := Option.some.inj hf
      subst ho
      rw [hQq]
      exact xs_iret C hr hlk hP hD hS dX11_add_71
    · replace hf := xsBr_t c20 hf
      refine lv_aload_n hx hb dX11_add_48 rfl (lv_at hl 0 rfl) ?_
      refine lv_aload_n hx hb dX11_add_49 rfl (lv_at hl 0 rfl) ?_
      replace hf := xsBd_use hf
      obtain ⟨o6, h7, hf⟩ := hf
      refine xs_calli hS (xs_runV (As := []) C (mX11_many l  h7) w_1581 w_1583 w_44 w_115 w_1584 hd_X11_many ⟨rfl, rfl, Nat.le_of_ble_eq_true rfl, Nat.le_of_ble_eq_true rfl, Nat.zero_le _, Nat.zero_le _⟩ hP hD hS lk_X11 rfl hl.1 rfl (Nat.le_of_ble_eq_true rfl) dX11_add_50) (fun H locs hP hD hS => ?_)
      refine lv_bipush (v := (24 : Int32)) hx hb dX11_add_53 (by decide) ?_
      have K18 : ∀ (y8 : Int32) (hf : fX11_add_J63 mWorld mEarlier mRemembered mIsLaid a0 a1 a2 a3 a4 o4 y8 = some out) (H : Heap) (locs : List Loc) (ls : Array Slot), va_P (xsD X) vwCl (wM X o4.2 mWorld mImage mDraft mEarlier mRemembered mHasImage mIsLaid mOne mTwo mShare mX mY mD mEventX mEventY mEventD mEvents mCrossingOf mBundle mEventOf mDegree mFrom mTo mCrossings mEdges mMet mUpper mLower mTape mTaped mPoint mEnd mBegin mFaultAt mFive mTold mActs mFar mViews mHullX mHullY mEndX mEndY mHeightUp mHeightLow mMeets mMeetsOf Rw) H → va_D (xsF X) (wM X o4.2 mWorld mImage mDraft mEarlier mRemembered mHasImage mIsLaid mOne mTwo mShare mX mY mD mEventX mEventY mEventD mEvents mCrossingOf mBundle mEventOf mDegree mFrom mTo mCrossings mEdges mMet mUpper mLower mTape mTaped mPoint mEnd mBegin mFaultAt mFive mTold mActs mFar mViews mHullX mHullY mEndX mEndY mHeightUp mHeightLow mMeets mMeetsOf Rw) → va_S (xsF X) s.heap H locs → lv_has ls 6 [(0, .ref (xsA X 100)), (1, .int a0), (2, .int a1), (3, .int a2), (4, .int a3), (5, .int a4)] → W p l e { frames := 2, cells := 0, slots := 0, locals := 54 } s m ([.ref (xsA X 100), .int a0, .int a1, .int a2, .int a3, .int a4] : List Value).toArray below meth c H locs 0 0 (MQ below Qq ([.ref (xsA X 100), .int a0, .int a1, .int a2, .int a3, .int a4] : List Value).toArray s 0 0 (xsF X)) (F0 m 63 ls [.int y8, .ref (xsA X 100)]) := by
        intro y8 hf H locs ls hP hD hS hl
        unfold fX11_add_J63 at hf
        refine lv_iconst (v := (2 : Int32)) hx hb dX11_add_63 (by decide) ?_
        replace hf := xsBd_use hf
        obtain ⟨o9, h10, hf⟩ := hf
        refine xs_calli hS (xs_runV (As := [.int y8, .int (2 : Int32)]) C (mX11_throwsIf l  h10) w_1502 w_1504 w_33 w_115 w_1505 hd_X11_throwsIf ⟨rfl, rfl, Nat.le_of_ble_eq_true rfl, Nat.le_of_ble_eq_true rfl, Nat.zero_le _, Nat.zero_le _⟩ hP hD hS lk_X11 rfl hl.1 rfl (Nat.le_of_ble_eq_true rfl) dX11_add_64) (fun H locs hP hD hS => ?_)
        refine lv_if_eq (tgt := 72) hx hb dX11_add_67 (by decide) (fun c15 => ?_) (fun c15 => ?_)
        · replace hf := xsBr_t c15 hf
          refine lv_aload_n hx hb dX11_add_72 rfl (lv_at hl 0 rfl) ?_
          replace hf := xsBd_use hf
          obtain ⟨o11, h12, hf⟩ := hf
          refine xs_callv hS (xs_runV (As := []) C (mX11_remembers l  h12) w_1630 w_1632 w_53 w_115 w_1633 hd_X11_remembers ⟨rfl, rfl, Nat.le_of_ble_eq_true rfl, Nat.le_of_ble_eq_true rfl, Nat.zero_le _, Nat.zero_le _⟩ hP hD hS lk_X11 rfl hl.1 rfl (Nat.le_of_ble_eq_true rfl) dX11_add_73) (fun H locs hP hD hS => ?_)
          refine lv_aload_n hx hb dX11_add_76 rfl (lv_at hl 0 rfl) ?_
          refine lv_iload_n hx hb dX11_add_77 rfl (lv_at hl 1 rfl) ?_
          refine lv_iload_n hx hb dX11_add_78 rfl (lv_at hl 2 rfl) ?_
          refine lv_iload_n hx hb dX11_add_79 rfl (lv_at hl 3 rfl) ?_
          refine lv_iload hx hb dX11_add_80 (lv_at hl 4 rfl) ?_
          refine lv_iload hx hb dX11_add_82 (lv_at hl 5 rfl) ?_
          replace hf := xsBd_use hf
          obtain ⟨o13, h14, hf⟩ := hf
          refine xs_calli hS (xs_runV (As := [.int a0, .int a1, .int a2, .int a3, .int a4]) C (mX11_adds l  h14) w_1589 w_1591 w_46 w_115 w_1592 hd_X11_adds ⟨rfl, rfl, Nat.le_of_ble_eq_true rfl, Nat.le_of_ble_eq_true rfl, Nat.zero_le _, Nat.zero_le _⟩ hP hD hS lk_X11 rfl hl.1 rfl (Nat.le_of_ble_eq_true rfl) dX11_add_84) (fun H locs hP hD hS => ?_)
          have ho := Option.some.inj hf
          subst ho
          rw [hQq]
          exact xs_iret C hr hlk hP hD hS dX11_add_87
        · replace hf := xsBr_f c15 hf
          refine lv_iconst (v := (0 : Int32)) hx hb dX11_add_70 (by decide) ?_
          have ho := Option.some.inj hf
          subst ho
          rw [hQq]
          exact xs_iret C hr hlk hP hD hS dX11_add_71
      replace hf := xsBd_use hf
      obtain ⟨v16, hf, hk17⟩ := hf
      refine lv_icmp_ne (tgt := 62) hx hb dX11_add_55 (by decide) (fun c19 => ?_) (fun c19 => ?_)
      · replace hf := xsBr_f c19 hf
        refine lv_iconst (v := (0 : Int32)) hx hb dX11_add_62 (by decide) ?_
        have ev := Option.some.inj hf
        subst ev
        exact K18 (0 : Int32) hk17 H locs ls hP hD hS (lv_sub hl [0, 1, 2, 3, 4, 5] rfl)
      · replace hf := xsBr_t c19 hf
        refine lv_iconst (v := (1 : Int32)) hx hb dX11_add_58 (by decide) ?_
        refine lv_goto (tgt := 63) hx hb dX11_add_59 (by decide) ?_
        have ev := Option.some.inj hf
        subst ev
        exact K18 (1 : Int32) hk17 H locs ls hP hD hS (lv_sub hl [0, 1, 2, 3, 4, 5] rfl)
  replace hf := xsBd_use hf
  obtain ⟨v21, hf, hk22⟩ := hf
  refine lv_if_eq (tgt := 36) hx hb dX11_add_11 (by decide) (fun c30 => ?_) (fun c30 => ?_)
  · replace hf := xsBr_t c30 hf
    refine lv_iconst (v := (1 : Int32)) hx hb dX11_add_36 (by decide) ?_
    refine lv_goto (tgt := 41) hx hb dX11_add_37 (by decide) ?_
    have ev := Option.some.inj hf
    subst ev
    exact K23 (1 : Int32) hk22 H locs ls hP hD hS (lv_sub hl [0, 1, 2, 3, 4, 5] rfl)
  · replace hf := xsBr_f c30 hf
    refine lv_iload_n hx hb dX11_add_14 rfl (lv_at hl 3 rfl) ?_
    refine lv_iload hx hb dX11_add_15 (lv_at hl 4 rfl) ?_
    replace hf := xsBd_use hf
    obtain ⟨o24, h25, hf⟩ := hf
    refine xs_calli hS (xs_runS (As := [.int a2, .int a3]) C (mX11_isPlace l  h25) w_1627 w_1628 w_115 w_1629 hd_X11_isPlace ⟨rfl, rfl, Nat.le_of_ble_eq_true rfl, Nat.le_of_ble_eq_true rfl, Nat.zero_le _, Nat.zero_le _⟩ hP hD hS hl.1 rfl (Nat.le_of_ble_eq_true rfl) dX11_add_17) (fun H locs hP hD hS => ?_)
    refine lv_if_eq (tgt := 36) hx hb dX11_add_20 (by decide) (fun c29 => ?_) (fun c29 => ?_)
    · replace hf := xsBr_t c29 hf
      refine lv_iconst (v := (1 : Int32)) hx hb dX11_add_36 (by decide) ?_
      refine lv_goto (tgt := 41) hx hb dX11_add_37 (by decide) ?_
      have ev := Option.some.inj hf
      subst ev
      exact K23 (1 : Int32) hk22 H locs ls hP hD hS (lv_sub hl [0, 1, 2, 3, 4, 5] rfl)
    · replace hf := xsBr_f c29 hf
      refine lv_iload hx hb dX11_add_23 (lv_at hl 5 rfl) ?_
      refine lv_i2l hx hb dX11_add_25 rfl ?_
      refine lv_lconst (v := (0 : Int64)) hx hb dX11_add_26 (by decide) ?_
      refine lv_ldc2 (v := (3 : Int64)) hx hb C.2.2.2.1 (xs_kts C _ w_1572) dX11_add_27 ?_
      replace hf := xsBd_use hf
      obtain ⟨o26, h27, hf⟩ := hf
      refine xs_calli hS (xs_runS (As := [.long a4.toInt64, .long (0 : Int64), .long (3 : Int64)]) C (mX11_in l  h27) w_1573 w_1574 w_115 w_1575 hd_X11_in ⟨rfl, rfl, Nat.le_of_ble_eq_true rfl, Nat.le_of_ble_eq_true rfl, Nat.zero_le _, Nat.zero_le _⟩ hP hD hS hl.1 rfl (Nat.le_of_ble_eq_true rfl) dX11_add_30) (fun H locs hP hD hS => ?_)
      refine lv_if_ne (tgt := 40) hx hb dX11_add_33 (by decide) (fun c28 => ?_) (fun c28 => ?_)
      · replace hf := xsBr_f c28 hf
        refine lv_iconst (v := (0 : Int32)) hx hb dX11_add_40 (by decide) ?_
        have ev := Option.some.inj hf
        subst ev
        exact K23 (0 : Int32) hk22 H locs ls hP hD hS (lv_sub hl [0, 1, 2, 3, 4, 5] rfl)
      · replace hf := xsBr_t c28 hf
        refine lv_iconst (v := (1 : Int32)) hx hb dX11_add_36 (by decide) ?_
        refine lv_goto (tgt := 41) hx hb dX11_add_37 (by decide) ?_
        have ev := Option.some.inj hf
        subst ev
        exact K23 (1 : Int32) hk22 H locs ls hP hD hS (lv_sub hl [0, 1, 2, 3, 4, 5] rfl)
set_option maxRecDepth 100000 in
set_option maxHeartbeats 8000000 in
theorem mX11_noSegment (l : Launch) {X : xsX} {mThrown mRemembered mHasImage mIsLaid mEvents mCrossings mEdges mTaped mPoint mEnd mBegin mFaultAt mActs : Int32} {mWorld mImage mDraft mEarlier mOne mTwo mShare mCrossingOf mBundle mEventOf mDegree mFrom mTo mMet mTape mFive mTold mFar mViews mHullX mHullY mEndX mEndY mMeets mMeetsOf : Nat → Int32} {mX mY mD mHeightUp mHeightLow : Int64} {mEventX mEventY mEventD mUpper mLower : Nat → Int64} {Rw : va_W} {a0 : Int32} {out : Int32 × Int32} (hf : fX11_noSegment mThrown mWorld a0 = some out) : Met l yX11_noSegment (xsWs yX11_noSegment cX11_noSegment 2 (some .boolean)) { frames := 1, cells := 0, slots := 0, locals := 25 } (xsP X (wM X mThrown mWorld mImage mDraft mEarlier mRemembered mHasImage mIsLaid mOne mTwo mShare mX mY mD mEventX mEventY mEventD mEvents mCrossingOf mBundle mEventOf mDegree mFrom mTo mCrossings mEdges mMet mUpper mLower mTape mTaped mPoint mEnd mBegin mFaultAt mFive mTold mActs mFar mViews mHullX mHullY mEndX mEndY mHeightUp mHeightLow mMeets mMeetsOf Rw) [.ref (xsA X 100), .int a0]) (xsQi X out.1 (wM X out.2 mWorld mImage mDraft mEarlier mRemembered mHasImage mIsLaid mOne mTwo mShare mX mY mD mEventX mEventY mEventD mEvents mCrossingOf mBundle mEventOf mDegree mFrom mTo mCrossings mEdges mMet mUpper mLower mTape mTaped mPoint mEnd mBegin mFaultAt mFive mTold mActs mFar mViews mHullX mHullY mEndX mEndY mHeightUp mHeightLow mMeets mMeetsOf Rw)) 0 0 (xsF X) := by
  refine xs_meth RX11 (by decide) rfl (Nat.le_of_ble_eq_true rfl) ?_
  intro p e s m below meth c ls H locs C hP hD hS hr hlk hl
  have hx := C.1
  have hb := C.2.1
  have hl : lv_has ls 2 [(0, .ref (xsA X 100)), (1, .int a0)] := hl
  obtain ⟨Qq, hQq⟩ : ∃ Qq, Qq = xsQi X out.1 (wM X out.2 mWorld mImage mDraft mEarlier mRemembered mHasImage mIsLaid mOne mTwo mShare mX mY mD mEventX mEventY mEventD mEvents mCrossingOf mBundle mEventOf mDegree mFrom mTo mCrossings mEdges mMet mUpper mLower mTape mTaped mPoint mEnd mBegin mFaultAt mFive mTold mActs mFar mViews mHullX mHullY mEndX mEndY mHeightUp mHeightLow mMeets mMeetsOf Rw) := ⟨_, rfl⟩
  rw [← hQq]
  unfold fX11_noSegment at hf
  refine lv_aload_n hx hb dX11_noSegment_0 rfl (lv_at hl 0 rfl) ?_
  refine lv_iconst (v := (0 : Int32)) hx hb dX11_noSegment_1 (by decide) ?_
  refine xp_X11_3 C hP hD hS dX11_noSegment_2 (fun H locs hP hD hS => ?_)
  refine lv_aload_n hx hb dX11_noSegment_5 rfl (lv_at hl 0 rfl) ?_
  refine lv_iload_n hx hb dX11_noSegment_6 rfl (lv_at hl 1 rfl) ?_
  refine lv_i2l hx hb dX11_noSegment_7 rfl ?_
  refine lv_lconst (v := (0 : Int64)) hx hb dX11_noSegment_8 (by decide) ?_
  refine lv_aload_n hx hb dX11_noSegment_9 rfl (lv_at hl 0 rfl) ?_
  replace hf := xsBd_use hf
  obtain ⟨o1, h2, hf⟩ := hf
  refine xs_calli hS (xs_runV (As := []) C (mX11_many l  h2) w_1581 w_1583 w_44 w_115 w_1584 hd_X11_many ⟨rfl, rfl, Nat.le_of_ble_eq_true rfl, Nat.le_of_ble_eq_true rfl, Nat.zero_le _, Nat.zero_le _⟩ hP hD hS lk_X11 rfl hl.1 rfl (Nat.le_of_ble_eq_true rfl) dX11_noSegment_10) (fun H locs hP hD hS => ?_)
  refine lv_iconst (v := (1 : Int32)) hx hb dX11_noSegment_13 (by decide) ?_
  refine lv_isub hx hb dX11_noSegment_14 ?_
  refine lv_i2l hx hb dX11_noSegment_15 rfl ?_
  replace hf := xsBd_use hf
  obtain ⟨o3, h4, hf⟩ := hf
  refine xs_calli hS (xs_runS (As := [.long a0.toInt64, .long (0 : Int64), .long (o1 - (1 : Int32)).toInt64]) C (mX11_in l  h4) w_1573 w_1574 w_115 w_1575 hd_X11_in ⟨rfl, rfl, Nat.le_of_ble_eq_true rfl, Nat.le_of_ble_eq_true rfl, Nat.zero_le _, Nat.zero_le _⟩ hP hD hS hl.1 rfl (Nat.le_of_ble_eq_true rfl) dX11_noSegment_16) (fun H locs hP hD hS => ?_)
  have K11 : ∀ (y5 : Int32) (hf : fX11_noSegment_J27 y5 = some out) (H : Heap) (locs : List Loc) (ls : Array Slot), va_P (xsD X) vwCl (wM X (0 : Int32) mWorld mImage mDraft mEarlier mRemembered mHasImage mIsLaid mOne mTwo mShare mX mY mD mEventX mEventY mEventD mEvents mCrossingOf mBundle mEventOf mDegree mFrom mTo mCrossings mEdges mMet mUpper mLower mTape mTaped mPoint mEnd mBegin mFaultAt mFive mTold mActs mFar mViews mHullX mHullY mEndX mEndY mHeightUp mHeightLow mMeets mMeetsOf Rw) H → va_D (xsF X) (wM X (0 : Int32) mWorld mImage mDraft mEarlier mRemembered mHasImage mIsLaid mOne mTwo mShare mX mY mD mEventX mEventY mEventD mEvents mCrossingOf mBundle mEventOf mDegree mFrom mTo mCrossings mEdges mMet mUpper mLower mTape mTaped mPoint mEnd mBegin mFaultAt mFive mTold mActs mFar mViews mHullX mHullY mEndX mEndY mHeightUp mHeightLow mMeets mMeetsOf Rw) → va_S (xsF X) s.heap H locs → lv_has ls 2 [] → W p l e { frames := 1, cells := 0, slots := 0, locals := 25 } s m ([.ref (xsA X 100), .int a0] : List Value).toArray below meth c H locs 0 0 (MQ below Qq ([.ref (xsA X 100), .int a0] : List Value).toArray s 0 0 (xsF X)) (F0 m 27 ls [.int y5, .ref (xsA X 100)]) := by
    intro y5 hf H locs ls hP hD hS hl
    unfold fX11_noSegment_J27 at hf
    refine lv_iconst (v := (1 : Int32)) hx hb dX11_noSegment_27 (by decide) ?_
    replace hf := xsBd_use hf
    obtain ⟨o6, h7, hf⟩ := hf
    refine xs_calli hS (xs_runV (As := [.int y5, .int (1 : Int32)]) C (mX11_throwsIf l  h7) w_1502 w_1504 w_33 w_115 w_1505 hd_X11_throwsIf ⟨rfl, rfl, Nat.le_of_ble_eq_true rfl, Nat.le_of_ble_eq_true rfl, Nat.zero_le _, Nat.zero_le _⟩ hP hD hS lk_X11 rfl hl.1 rfl (Nat.le_of_ble_eq_true rfl) dX11_noSegment_28) (fun H locs hP hD hS => ?_)
    replace hf := xsCk_use hf
    obtain ⟨h8, hf⟩ := hf
    have ho := Option.some.inj hf
    subst ho
    rw [hQq]
    exact xs_zret C hr hlk h8 hP hD hS dX11_noSegment_31
  replace hf := xsBd_use hf
  obtain ⟨v9, hf, hk10⟩ := hf
  refine lv_if_ne (tgt := 26) hx hb dX11_noSegment_19 (by decide) (fun c12 => ?_) (fun c12 => ?_)
  · replace hf := xsBr_f c12 hf
    refine lv_iconst (v := (0 : Int32)) hx hb dX11_noSegment_26 (by decide) ?_
    have ev := Option.some.inj hf
    subst ev
    exact K11 (0 : Int32) hk10 H locs ls hP hD hS (lv_sub hl [] rfl)
  · replace hf := xsBr_t c12 hf
    refine lv_iconst (v := (1 : Int32)) hx hb dX11_noSegment_22 (by decide) ?_
    refine lv_goto (tgt := 27) hx hb dX11_noSegment_23 (by decide) ?_
    have ev := Option.some.inj hf
    subst ev
    exact K11 (1 : Int32) hk10 H locs ls hP hD hS (lv_sub hl [] rfl)
set_option maxRecDepth 100000 in
set_option maxHeartbeats 8000000 in
theorem mX11_crossingsNow (l : Launch) {X : xsX} {mThrown mRemembered mHasImage mIsLaid mEvents mCrossings mEdges mTaped mPoint mEnd mBegin mFaultAt mActs : Int32} {mWorld mImage mDraft mEarlier mOne mTwo mShare mCrossingOf mBundle mEventOf mDegree mFrom mTo mMet mTape mFive mTold mFar mViews mHullX mHullY mEndX mEndY mMeets mMeetsOf : Nat → Int32} {mX mY mD mHeightUp mHeightLow : Int64} {mEventX mEventY mEventD mUpper mLower : Nat → Int64} {Rw : va_W} {out : Int32 × Int32 × (Nat → Int32) × (Nat → Int32) × (Nat → Int32) × Int64 × Int64 × Int64 × (Nat → Int64) × (Nat → Int64) × (Nat → Int64) × Int32 × (Nat → Int32) × (Nat → Int32) × (Nat → Int32) × (Nat → Int32) × (Nat → Int32) × (Nat → Int32) × Int32 × Int32} (hf : fX11_crossingsNow mWorld mIsLaid mOne mTwo mShare mX mY mD mEventX mEventY mEventD mEvents mCrossingOf mBundle mEventOf mDegree mFrom mTo mCrossings mEdges = some out) : Met l yX11_crossingsNow (xsWs yX11_crossingsNow cX11_crossingsNow 1 (some .int)) { frames := 6, cells := 0, slots := 0, locals := 164 } (xsP X (wM X mThrown mWorld mImage mDraft mEarlier mRemembered mHasImage mIsLaid mOne mTwo mShare mX mY mD mEventX mEventY mEventD mEvents mCrossingOf mBundle mEventOf mDegree mFrom mTo mCrossings mEdges mMet mUpper mLower mTape mTaped mPoint mEnd mBegin mFaultAt mFive mTold mActs mFar mViews mHullX mHullY mEndX mEndY mHeightUp mHeightLow mMeets mMeetsOf Rw) [.ref (xsA X 100)]) (xsQi X out.1 (wM X mThrown mWorld mImage mDraft mEarlier mRemembered mHasImage out.2.1 out.2.2.1 out.2.2.2.1 out.2.2.2.2.1 out.2.2.2.2.2.1 out.2.2.2.2.2.2.1 out.2.2.2.2.2.2.2.1 out.2.2.2.2.2.2.2.2.1 out.2.2.2.2.2.2.2.2.2.1 out.2.2.2.2.2.2.2.2.2.2.1 out.2.2.2.2.2.2.2.2.2.2.2.1 out.2.2.2.2.2.2.2.2.2.2.2.2.1 out.2.2.2.2.2.2.2.2.2.2.2.2.2.1 out.2.2.2.2.2.2.2.2.2.2.2.2.2.2.1 out.2.2.2.2.2.2.2.2.2.2.2.2.2.2.2.1 out.2.2.2.2.2.2.2.2.2.2.2.2.2.2.2.2.1 out.2.2.2.2.2.2.2.2.2.2.2.2.2.2.2.2.2.1 out.2.2.2.2.2.2.2.2.2.2.2.2.2.2.2.2.2.2.1 out.2.2.2.2.2.2.2.2.2.2.2.2.2.2.2.2.2.2.2 mMet mUpper mLower mTape mTaped mPoint mEnd mBegin mFaultAt mFive mTold mActs mFar mViews mHullX mHullY mEndX mEndY mHeightUp mHeightLow mMeets mMeetsOf Rw)) 0 0 (xsF X) := by
  refine xs_meth RX11 (by decide) rfl (Nat.le_of_ble_eq_true rfl) ?_
  intro p e s m below meth c ls H locs C hP hD hS hr hlk hl
  have hx := C.1
  have hb := C.2.1
  have hl : lv_has ls 1 [(0, .ref (xsA X 100))] := hl
  obtain ⟨Qq, hQq⟩ : ∃ Qq, Qq = xsQi X out.1 (wM X mThrown mWorld mImage mDraft mEarlier mRemembered mHasImage out.2.1 out.2.2.1 out.2.2.2.1 out.2.2.2.2.1 out.2.2.2.2.2.1 out.2.2.2.2.2.2.1 out.2.2.2.2.2.2.2.1 out.2.2.2.2.2.2.2.2.1 out.2.2.2.2.2.2.2.2.2.1 out.2.2.2.2.2.2.2.2.2.2.1 out.2.2.2.2.2.2.2.2.2.2.2.1 out.2.2.2.2.2.2.2.2.2.2.2.2.1 out.2.2.2.2.2.2.2.2.2.2.2.2.2.1 out.2.2.2.2.2.2.2.2.2.2.2.2.2.2.1 out.2.2.2.2.2.2.2.2.2.2.2.2.2.2.2.1 out.2.2.2.2.2.2.2.2.2.2.2.2.2.2.2.2.1 out.2.2.2.2.2.2.2.2.2.2.2.2.2.2.2.2.2.1 out.2.2.2.2.2.2.2.2.2.2.2.2.2.2.2.2.2.2.1 out.2.2.2.2.2.2.2.2.2.2.2.2.2.2.2.2.2.2.2 mMet mUpper mLower mTape mTaped mPoint mEnd mBegin mFaultAt mFive mTold mActs mFar mViews mHullX mHullY mEndX mEndY mHeightUp mHeightLow mMeets mMeetsOf Rw) := ⟨_, rfl⟩
  rw [← hQq]
  unfold fX11_crossingsNow at hf
  refine lv_aload_n hx hb dX11_crossingsNow_0 rfl (lv_at hl 0 rfl) ?_
  replace hf := xsBd_use hf
  obtain ⟨o1, h2, hf⟩ := hf
  refine xs_callv hS (xs_runV (As := []) C (mX11_lays l  h2) w_1646 w_1648 w_56 w_115 w_1649 hd_X11_lays ⟨rfl, rfl, Nat.le_of_ble_eq_true rfl, Nat.le_of_ble_eq_true rfl, Nat.zero_le _, Nat.zero_le _⟩ hP hD hS lk_X11 rfl hl.1 rfl (Nat.le_of_ble_eq_true rfl) dX11_crossingsNow_1) (fun H locs hP hD hS => ?_)
  refine lv_aload_n hx hb dX11_crossingsNow_4 rfl (lv_at hl 0 rfl) ?_
  refine xg_X11_206 C hP dX11_crossingsNow_5 ?_
  have ho := Option.some.inj hf
  subst ho
  rw [hQq]
  exact xs_iret C hr hlk hP hD hS dX11_crossingsNow_8
set_option maxRecDepth 100000 in
set_option maxHeartbeats 8000000 in
theorem mX11_cut (l : Launch) {X : xsX} {mThrown mRemembered mHasImage mIsLaid mEvents mCrossings mEdges mTaped mPoint mEnd mBegin mFaultAt mActs : Int32} {mWorld mImage mDraft mEarlier mOne mTwo mShare mCrossingOf mBundle mEventOf mDegree mFrom mTo mMet mTape mFive mTold mFar mViews mHullX mHullY mEndX mEndY mMeets mMeetsOf : Nat → Int32} {mX mY mD mHeightUp mHeightLow : Int64} {mEventX mEventY mEventD mUpper mLower : Nat → Int64} {Rw : va_W} {a0 : Int32} {out : Int32 × Int32 × (Nat → Int32) × (Nat → Int32) × Int32 × Int32 × (Nat → Int32) × (Nat → Int32) × (Nat → Int32) × Int64 × Int64 × Int64 × (Nat → Int64) × (Nat → Int64) × (Nat → Int64) × Int32 × (Nat → Int32) × (Nat → Int32) × (Nat → Int32) × (Nat → Int32) × (Nat → Int32) × (Nat → Int32) × Int32 × Int32} (hf : fX11_cut mThrown mWorld mEarlier mRemembered mIsLaid mOne mTwo mShare mX mY mD mEventX mEventY mEventD mEvents mCrossingOf mBundle mEventOf mDegree mFrom mTo mCrossings mEdges a0 = some out) : Met l yX11_cut (xsWs yX11_cut cX11_cut 3 (some .int)) { frames := 7, cells := 0, slots := 0, locals := 184 } (xsP X (wM X mThrown mWorld mImage mDraft mEarlier mRemembered mHasImage mIsLaid mOne mTwo mShare mX mY mD mEventX mEventY mEventD mEvents mCrossingOf mBundle mEventOf mDegree mFrom mTo mCrossings mEdges mMet mUpper mLower mTape mTaped mPoint mEnd mBegin mFaultAt mFive mTold mActs mFar mViews mHullX mHullY mEndX mEndY mHeightUp mHeightLow mMeets mMeetsOf Rw) [.ref (xsA X 100), .int a0]) (xsQi X out.1 (wM X out.2.1 out.2.2.1 mImage mDraft out.2.2.2.1 out.2.2.2.2.1 mHasImage out.2.2.2.2.2.1 out.2.2.2.2.2.2.1 out.2.2.2.2.2.2.2.1 out.2.2.2.2.2.2.2.2.1 out.2.2.2.2.2.2.2.2.2.1 out.2.2.2.2.2.2.2.2.2.2.1 out.2.2.2.2.2.2.2.2.2.2.2.1 out.2.2.2.2.2.2.2.2.2.2.2.2.1 out.2.2.2.2.2.2.2.2.2.2.2.2.2.1 out.2.2.2.2.2.2.2.2.2.2.2.2.2.2.1 out.2.2.2.2.2.2.2.2.2.2.2.2.2.2.2.1 out.2.2.2.2.2.2.2.2.2.2.2.2.2.2.2.2.1 out.2.2.2.2.2.2.2.2.2.2.2.2.2.2.2.2.2.1 out.2.2.2.2.2.2.2.2.2.2.2.2.2.2.2.2.2.2.1 out.2.2.2.2.2.2.2.2.2.2.2.2.2.2.2.2.2.2.2.1 out.2.2.2.2.2.2.2.2.2.2.2.2.2.2.2.2.2.2.2.2.1 out.2.2.2.2.2.2.2.2.2.2.2.2.2.2.2.2.2.2.2.2.2.1 out.2.2.2.2.2.2.2.2.2.2.2.2.2.2.2.2.2.2.2.2.2.2.1 out.2.2.2.2.2.2.2.2.2.2.2.2.2.2.2.2.2.2.2.2.2.2.2 mMet mUpper mLower mTape mTaped mPoint mEnd mBegin mFaultAt mFive mTold mActs mFar mViews mHullX mHullY mEndX mEndY mHeightUp mHeightLow mMeets mMeetsOf Rw)) 0 0 (xsF X) := by
  refine xs_meth RX11 (by decide) rfl (Nat.le_of_ble_eq_true rfl) ?_
  intro p e s m below meth c ls H locs C hP hD hS hr hlk hl
  have hx := C.1
  have hb := C.2.1
  have hl : lv_has ls 3 [(0, .ref (xsA X 100)), (1, .int a0)] := hl
  obtain ⟨Qq, hQq⟩ : ∃ Qq, Qq = xsQi X out.1 (wM X out.2.1 out.2.2.1 mImage mDraft out.2.2.2.1 out.2.2.2.2.1 mHasImage out.2.2.2.2.2.1 out.2.2.2.2.2.2.1 out.2.2.2.2.2.2.2.1 out.2.2.2.2.2.2.2.2.1 out.2.2.2.2.2.2.2.2.2.1 out.2.2.2.2.2.2.2.2.2.2.1 out.2.2.2.2.2.2.2.2.2.2.2.1 out.2.2.2.2.2.2.2.2.2.2.2.2.1 out.2.2.2.2.2.2.2.2.2.2.2.2.2.1 out.2.2.2.2.2.2.2.2.2.2.2.2.2.2.1 out.2.2.2.2.2.2.2.2.2.2.2.2.2.2.2.1 out.2.2.2.2.2.2.2.2.2.2.2.2.2.2.2.2.1 out.2.2.2.2.2.2.2.2.2.2.2.2.2.2.2.2.2.1 out.2.2.2.2.2.2.2.2.2.2.2.2.2.2.2.2.2.2.1 out.2.2.2.2.2.2.2.2.2.2.2.2.2.2.2.2.2.2.2.1 out.2.2.2.2.2.2.2.2.2.2.2.2.2.2.2.2.2.2.2.2.1 out.2.2.2.2.2.2.2.2.2.2.2.2.2.2.2.2.2.2.2.2.2.1 out.2.2.2.2.2.2.2.2.2.2.2.2.2.2.2.2.2.2.2.2.2.2.1 out.2.2.2.2.2.2.2.2.2.2.2.2.2.2.2.2.2.2.2.2.2.2.2 mMet mUpper mLower mTape mTaped mPoint mEnd mBegin mFaultAt mFive mTold mActs mFar mViews mHullX mHullY mEndX mEndY mHeightUp mHeightLow mMeets mMeetsOf Rw) := ⟨_, rfl⟩
  rw [← hQq]
  unfold fX11_cut at hf
  refine lv_aload_n hx hb dX11_cut_0 rfl (lv_at hl 0 rfl) ?_
  refine lv_iload_n hx hb dX11_cut_1 rfl (lv_at hl 1 rfl) ?_
  replace hf := xsBd_use hf
  obtain ⟨o1, h2, hf⟩ := hf
  refine xs_calli hS (xs_runV (As := [.int a0]) C (mX11_noSegment l  h2) w_1638 w_1640 w_54 w_115 w_1641 hd_X11_noSegment ⟨rfl, rfl, Nat.le_of_ble_eq_true rfl, Nat.le_of_ble_eq_true rfl, Nat.zero_le _, Nat.zero_le _⟩ hP hD hS lk_X11 rfl hl.1 rfl (Nat.le_of_ble_eq_true rfl) dX11_cut_2) (fun H locs hP hD hS => ?_)
  refine lv_if_eq (tgt := 10) hx hb dX11_cut_5 (by decide) (fun c11 => ?_) (fun c11 => ?_)
  · replace hf := xsBr_t c11 hf
    refine lv_aload_n hx hb dX11_cut_10 rfl (lv_at hl 0 rfl) ?_
    replace hf := xsBd_use hf
    obtain ⟨o3, h4, hf⟩ := hf
    refine xs_calli hS (xs_runV (As := []) C (mX11_crossingsNow l  h4) w_1642 w_1644 w_55 w_115 w_1645 hd_X11_crossingsNow ⟨rfl, rfl, Nat.le_of_ble_eq_true rfl, Nat.le_of_ble_eq_true rfl, Nat.zero_le _, Nat.zero_le _⟩ hP hD hS lk_X11 rfl hl.1 rfl (Nat.le_of_ble_eq_true rfl) dX11_cut_11) (fun H locs hP hD hS => ?_)
    refine lv_istore_n (lv' := [(2, .int o3.1), (0, .ref (xsA X 100)), (1, .int a0)]) hx hb dX11_cut_14 rfl hl (by decide) rfl (fun ls hl => ?_)
    refine lv_aload_n hx hb dX11_cut_15 rfl (lv_at hl 1 rfl) ?_
    replace hf := xsBd_use hf
    obtain ⟨o5, h6, hf⟩ := hf
    refine xs_callv hS (xs_runV (As := []) C (mX11_remembers l  h6) w_1630 w_1632 w_53 w_115 w_1633 hd_X11_remembers ⟨rfl, rfl, Nat.le_of_ble_eq_true rfl, Nat.le_of_ble_eq_true rfl, Nat.zero_le _, Nat.zero_le _⟩ hP hD hS lk_X11 rfl hl.1 rfl (Nat.le_of_ble_eq_true rfl) dX11_cut_16) (fun H locs hP hD hS => ?_)
    refine lv_aload_n hx hb dX11_cut_19 rfl (lv_at hl 1 rfl) ?_
    refine lv_iload_n hx hb dX11_cut_20 rfl (lv_at hl 2 rfl) ?_
    replace hf := xsBd_use hf
    obtain ⟨o7, h8, hf⟩ := hf
    refine xs_callv hS (xs_runV (As := [.int a0]) C (mX11_cuts l  h8) w_1598 w_1600 w_48 w_115 w_1601 hd_X11_cuts ⟨rfl, rfl, Nat.le_of_ble_eq_true rfl, Nat.le_of_ble_eq_true rfl, Nat.zero_le _, Nat.zero_le _⟩ hP hD hS lk_X11 rfl hl.1 rfl (Nat.le_of_ble_eq_true rfl) dX11_cut_21) (fun H locs hP hD hS => ?_)
    refine lv_iload_n hx hb dX11_cut_24 rfl (lv_at hl 0 rfl) ?_
    refine lv_aload_n hx hb dX11_cut_25 rfl (lv_at hl 1 rfl) ?_
    replace hf := xsBd_use hf
    obtain ⟨o9, h10, hf⟩ := hf
    refine xs_calli hS (xs_runV (As := []) C (mX11_crossingsNow l  h10) w_1642 w_1644 w_55 w_115 w_1645 hd_X11_crossingsNow ⟨rfl, rfl, Nat.le_of_ble_eq_true rfl, Nat.le_of_ble_eq_true rfl, Nat.zero_le _, Nat.zero_le _⟩ hP hD hS lk_X11 rfl hl.1 rfl (Nat.le_of_ble_eq_true rfl) dX11_cut_26) (fun H locs hP hD hS => ?_)
    refine lv_isub hx hb dX11_cut_29 ?_
    have ho := Option.some.inj hf
    subst ho
    rw [hQq]
    exact xs_iret C hr hlk hP hD hS dX11_cut_30
  · replace hf := xsBr_f c11 hf
    refine lv_iconst (v := (0 : Int32)) hx hb dX11_cut_8 (by decide) ?_
    have ho := Option.some.inj hf
    subst ho
    rw [hQq]
    exact xs_iret C hr hlk hP hD hS dX11_cut_9
set_option maxRecDepth 100000 in
set_option maxHeartbeats 8000000 in
theorem mX11_move (l : Launch) {X : xsX} {mThrown mRemembered mHasImage mIsLaid mEvents mCrossings mEdges mTaped mPoint mEnd mBegin mFaultAt mActs : Int32} {mWorld mImage mDraft mEarlier mOne mTwo mShare mCrossingOf mBundle mEventOf mDegree mFrom mTo mMet mTape mFive mTold mFar mViews mHullX mHullY mEndX mEndY mMeets mMeetsOf : Nat → Int32} {mX mY mD mHeightUp mHeightLow : Int64} {mEventX mEventY mEventD mUpper mLower : Nat → Int64} {Rw : va_W} {a0 : Int32} {a1 : Int32} {a2 : Int32} {out : Int32 × Int32 × (Nat → Int32) × (Nat → Int32) × Int32 × Int32 × (Nat → Int32) × (Nat → Int32) × (Nat → Int32) × Int64 × Int64 × Int64 × (Nat → Int64) × (Nat → Int64) × (Nat → Int64) × Int32 × (Nat → Int32) × (Nat → Int32) × (Nat → Int32) × (Nat → Int32) × (Nat → Int32) × (Nat → Int32) × Int32 × Int32} (hf : fX11_move mThrown mWorld mEarlier mRemembered mIsLaid mOne mTwo mShare mX mY mD mEventX mEventY mEventD mEvents mCrossingOf mBundle mEventOf mDegree mFrom mTo mCrossings mEdges a0 a1 a2 = some out) : Met l yX11_move (xsWs yX11_move cX11_move 4 (some .int)) { frames := 7, cells := 0, slots := 0, locals := 184 } (xsP X (wM X mThrown mWorld mImage mDraft mEarlier mRemembered mHasImage mIsLaid mOne mTwo mShare mX mY mD mEventX mEventY mEventD mEvents mCrossingOf mBundle mEventOf mDegree mFrom mTo mCrossings mEdges mMet mUpper mLower mTape mTaped mPoint mEnd mBegin mFaultAt mFive mTold mActs mFar mViews mHullX mHullY mEndX mEndY mHeightUp mHeightLow mMeets mMeetsOf Rw) [.ref (xsA X 100), .int a0, .int a1, .int a2]) (xsQi X out.1 (wM X out.2.1 out.2.2.1 mImage mDraft out.2.2.2.1 out.2.2.2.2.1 mHasImage out.2.2.2.2.2.1 out.2.2.2.2.2.2.1 out.2.2.2.2.2.2.2.1 out.2.2.2.2.2.2.2.2.1 out.2.2.2.2.2.2.2.2.2.1 out.2.2.2.2.2.2.2.2.2.2.1 out.2.2.2.2.2.2.2.2.2.2.2.1 out.2.2.2.2.2.2.2.2.2.2.2.2.1 out.2.2.2.2.2.2.2.2.2.2.2.2.2.1 out.2.2.2.2.2.2.2.2.2.2.2.2.2.2.1 out.2.2.2.2.2.2.2.2.2.2.2.2.2.2.2.1 out.2.2.2.2.2.2.2.2.2.2.2.2.2.2.2.2.1 out.2.2.2.2.2.2.2.2.2.2.2.2.2.2.2.2.2.1 out.2.2.2.2.2.2.2.2.2.2.2.2.2.2.2.2.2.2.1 out.2.2.2.2.2.2.2.2.2.2.2.2.2.2.2.2.2.2.2.1 out.2.2.2.2.2.2.2.2.2.2.2.2.2.2.2.2.2.2.2.2.1 out.2.2.2.2.2.2.2.2.2.2.2.2.2.2.2.2.2.2.2.2.2.1 out.2.2.2.2.2.2.2.2.2.2.2.2.2.2.2.2.2.2.2.2.2.2.1 out.2.2.2.2.2.2.2.2.2.2.2.2.2.2.2.2.2.2.2.2.2.2.2 mMet mUpper mLower mTape mTaped mPoint mEnd mBegin mFaultAt mFive mTold mActs mFar mViews mHullX mHullY mEndX mEndY mHeightUp mHeightLow mMeets mMeetsOf Rw)) 0 0 (xsF X) := by
  refine xs_meth RX11 (by decide) rfl (Nat.le_of_ble_eq_true rfl) ?_
  intro p e s m below meth c ls H locs C hP hD hS hr hlk hl
  have hx := C.1
  have hb := C.2.1
  have hl : lv_has ls 4 [(0, .ref (xsA X 100)), (1, .int a0), (2, .int a1), (3, .int a2)] := hl
  obtain ⟨Qq, hQq⟩ : ∃ Qq, Qq = xsQi X out.1 (wM X out.2.1 out.2.2.1 mImage mDraft out.2.2.2.1 out.2.2.2.2.1 mHasImage out.2.2.2.2.2.1 out.2.2.2.2.2.2.1 out.2.2.2.2.2.2.2.1 out.2.2.2.2.2.2.2.2.1 out.2.2.2.2.2.2.2.2.2.1 out.2.2.2.2.2.2.2.2.2.2.1 out.2.2.2.2.2.2.2.2.2.2.2.1 out.2.2.2.2.2.2.2.2.2.2.2.2.1 out.2.2.2.2.2.2.2.2.2.2.2.2.2.1 out.2.2.2.2.2.2.2.2.2.2.2.2.2.2.1 out.2.2.2.2.2.2.2.2.2.2.2.2.2.2.2.1 out.2.2.2.2.2.2.2.2.2.2.2.2.2.2.2.2.1 out.2.2.2.2.2.2.2.2.2.2.2.2.2.2.2.2.2.1 out.2.2.2.2.2.2.2.2.2.2.2.2.2.2.2.2.2.2.1 out.2.2.2.2.2.2.2.2.2.2.2.2.2.2.2.2.2.2.2.1 out.2.2.2.2.2.2.2.2.2.2.2.2.2.2.2.2.2.2.2.2.1 out.2.2.2.2.2.2.2.2.2.2.2.2.2.2.2.2.2.2.2.2.2.1 out.2.2.2.2.2.2.2.2.2.2.2.2.2.2.2.2.2.2.2.2.2.2.1 out.2.2.2.2.2.2.2.2.2.2.2.2.2.2.2.2.2.2.2.2.2.2.2 mMet mUpper mLower mTape mTaped mPoint mEnd mBegin mFaultAt mFive mTold mActs mFar mViews mHullX mHullY mEndX mEndY mHeightUp mHeightLow mMeets mMeetsOf Rw) := ⟨_, rfl⟩
  rw [← hQq]
  unfold fX11_move at hf
  refine lv_aload_n hx hb dX11_move_0 rfl (lv_at hl 0 rfl) ?_
  refine lv_iload_n hx hb dX11_move_1 rfl (lv_at hl 1 rfl) ?_
  replace hf := xsBd_use hf
  obtain ⟨o1, h2, hf⟩ := hf
  refine xs_calli hS (xs_runV (As := [.int a0]) C (mX11_noSegment l  h2) w_1638 w_1640 w_54 w_115 w_1641 hd_X11_noSegment ⟨rfl, rfl, Nat.le_of_ble_eq_true rfl, Nat.le_of_ble_eq_true rfl, Nat.zero_le _, Nat.zero_le _⟩ hP hD hS lk_X11 rfl hl.1 rfl (Nat.le_of_ble_eq_true rfl) dX11_move_2) (fun H locs hP hD hS => ?_)
  refine lv_if_ne (tgt := 31) hx hb dX11_move_5 (by decide) (fun c19 => ?_) (fun c19 => ?_)
  · replace hf := xsBr_f c19 hf
    refine lv_iconst (v := (0 : Int32)) hx hb dX11_move_31 (by decide) ?_
    have ho := Option.some.inj hf
    subst ho
    rw [hQq]
    exact xs_iret C hr hlk hP hD hS dX11_move_32
  · replace hf := xsBr_t c19 hf
    refine lv_aload_n hx hb dX11_move_8 rfl (lv_at hl 0 rfl) ?_
    refine lv_aload_n hx hb dX11_move_9 rfl (lv_at hl 0 rfl) ?_
    refine lv_iload_n hx hb dX11_move_10 rfl (lv_at hl 1 rfl) ?_
    refine lv_iload_n hx hb dX11_move_11 rfl (lv_at hl 2 rfl) ?_
    refine lv_iload_n hx hb dX11_move_12 rfl (lv_at hl 3 rfl) ?_
    replace hf := xsBd_use hf
    obtain ⟨o3, h4, hf⟩ := hf
    refine xs_calli hS (xs_runV (As := [.int a0, .int a1, .int a2]) C (mX11_canMove l  h4) w_1604 w_1606 w_49 w_115 w_1607 hd_X11_canMove ⟨rfl, rfl, Nat.le_of_ble_eq_true rfl, Nat.le_of_ble_eq_true rfl, Nat.zero_le _, Nat.zero_le _⟩ hP hD hS lk_X11 rfl hl.1 rfl (Nat.le_of_ble_eq_true rfl) dX11_move_13) (fun H locs hP hD hS => ?_)
    have K17 : ∀ (y5 : Int32) (hf : fX11_move_J24 mWorld mEarlier mRemembered mIsLaid mOne mTwo mShare mX mY mD mEventX mEventY mEventD mEvents mCrossingOf mBundle mEventOf mDegree mFrom mTo mCrossings mEdges a0 a1 a2 o1 y5 = some out) (H : Heap) (locs : List Loc) (ls : Array Slot), va_P (xsD X) vwCl (wM X o1.2 mWorld mImage mDraft mEarlier mRemembered mHasImage mIsLaid mOne mTwo mShare mX mY mD mEventX mEventY mEventD mEvents mCrossingOf mBundle mEventOf mDegree mFrom mTo mCrossings mEdges mMet mUpper mLower mTape mTaped mPoint mEnd mBegin mFaultAt mFive mTold mActs mFar mViews mHullX mHullY mEndX mEndY mHeightUp mHeightLow mMeets mMeetsOf Rw) H → va_D (xsF X) (wM X o1.2 mWorld mImage mDraft mEarlier mRemembered mHasImage mIsLaid mOne mTwo mShare mX mY mD mEventX mEventY mEventD mEvents mCrossingOf mBundle mEventOf mDegree mFrom mTo mCrossings mEdges mMet mUpper mLower mTape mTaped mPoint mEnd mBegin mFaultAt mFive mTold mActs mFar mViews mHullX mHullY mEndX mEndY mHeightUp mHeightLow mMeets mMeetsOf Rw) → va_S (xsF X) s.heap H locs → lv_has ls 4 [(0, .ref (xsA X 100)), (1, .int a0), (2, .int a1), (3, .int a2)] → W p l e { frames := 7, cells := 0, slots := 0, locals := 184 } s m ([.ref (xsA X 100), .int a0, .int a1, .int a2] : List Value).toArray below meth c H locs 0 0 (MQ below Qq ([.ref (xsA X 100), .int a0, .int a1, .int a2] : List Value).toArray s 0 0 (xsF X)) (F0 m 24 ls [.int y5, .ref (xsA X 100)]) := by
      intro y5 hf H locs ls hP hD hS hl
      unfold fX11_move_J24 at hf
      refine lv_iconst (v := (2 : Int32)) hx hb dX11_move_24 (by decide) ?_
      replace hf := xsBd_use hf
      obtain ⟨o6, h7, hf⟩ := hf
      refine xs_calli hS (xs_runV (As := [.int y5, .int (2 : Int32)]) C (mX11_throwsIf l  h7) w_1502 w_1504 w_33 w_115 w_1505 hd_X11_throwsIf ⟨rfl, rfl, Nat.le_of_ble_eq_true rfl, Nat.le_of_ble_eq_true rfl, Nat.zero_le _, Nat.zero_le _⟩ hP hD hS lk_X11 rfl hl.1 rfl (Nat.le_of_ble_eq_true rfl) dX11_move_25) (fun H locs hP hD hS => ?_)
      refine lv_if_eq (tgt := 33) hx hb dX11_move_28 (by decide) (fun c14 => ?_) (fun c14 => ?_)
      · replace hf := xsBr_t c14 hf
        refine lv_aload_n hx hb dX11_move_33 rfl (lv_at hl 0 rfl) ?_
        replace hf := xsBd_use hf
        obtain ⟨o8, h9, hf⟩ := hf
        refine xs_callv hS (xs_runV (As := []) C (mX11_remembers l  h9) w_1630 w_1632 w_53 w_115 w_1633 hd_X11_remembers ⟨rfl, rfl, Nat.le_of_ble_eq_true rfl, Nat.le_of_ble_eq_true rfl, Nat.zero_le _, Nat.zero_le _⟩ hP hD hS lk_X11 rfl hl.1 rfl (Nat.le_of_ble_eq_true rfl) dX11_move_34) (fun H locs hP hD hS => ?_)
        refine lv_aload_n hx hb dX11_move_37 rfl (lv_at hl 0 rfl) ?_
        refine lv_iload_n hx hb dX11_move_38 rfl (lv_at hl 1 rfl) ?_
        refine lv_iload_n hx hb dX11_move_39 rfl (lv_at hl 2 rfl) ?_
        refine lv_iload_n hx hb dX11_move_40 rfl (lv_at hl 3 rfl) ?_
        replace hf := xsBd_use hf
        obtain ⟨o10, h11, hf⟩ := hf
        refine xs_callv hS (xs_runV (As := [.int a0, .int a1, .int a2]) C (mX11_moves l  h11) w_1614 w_1616 w_51 w_115 w_1617 hd_X11_moves ⟨rfl, rfl, Nat.le_of_ble_eq_true rfl, Nat.le_of_ble_eq_true rfl, Nat.zero_le _, Nat.zero_le _⟩ hP hD hS lk_X11 rfl hl.1 rfl (Nat.le_of_ble_eq_true rfl) dX11_move_41) (fun H locs hP hD hS => ?_)
        refine lv_aload_n hx hb dX11_move_44 rfl (lv_at hl 0 rfl) ?_
        replace hf := xsBd_use hf
        obtain ⟨o12, h13, hf⟩ := hf
        refine xs_calli hS (xs_runV (As := []) C (mX11_crossingsNow l  h13) w_1642 w_1644 w_55 w_115 w_1645 hd_X11_crossingsNow ⟨rfl, rfl, Nat.le_of_ble_eq_true rfl, Nat.le_of_ble_eq_true rfl, Nat.zero_le _, Nat.zero_le _⟩ hP hD hS lk_X11 rfl hl.1 rfl (Nat.le_of_ble_eq_true rfl) dX11_move_45) (fun H locs hP hD hS => ?_)
        have ho := Option.some.inj hf
        subst ho
        rw [hQq]
        exact xs_iret C hr hlk hP hD hS dX11_move_48
      · replace hf := xsBr_f c14 hf
        refine lv_iconst (v := (0 : Int32)) hx hb dX11_move_31 (by decide) ?_
        have ho := Option.some.inj hf
        subst ho
        rw [hQq]
        exact xs_iret C hr hlk hP hD hS dX11_move_32
    replace hf := xsBd_use hf
    obtain ⟨v15, hf, hk16⟩ := hf
    refine lv_if_ne (tgt := 23) hx hb dX11_move_16 (by decide) (fun c18 => ?_) (fun c18 => ?_)
    · replace hf := xsBr_f c18 hf
      refine lv_iconst (v := (0 : Int32)) hx hb dX11_move_23 (by decide) ?_
      have ev := Option.some.inj hf
      subst ev
      exact K17 (0 : Int32) hk16 H locs ls hP hD hS (lv_sub hl [0, 1, 2, 3] rfl)
    · replace hf := xsBr_t c18 hf
      refine lv_iconst (v := (1 : Int32)) hx hb dX11_move_19 (by decide) ?_
      refine lv_goto (tgt := 24) hx hb dX11_move_20 (by decide) ?_
      have ev := Option.some.inj hf
      subst ev
      exact K17 (1 : Int32) hk16 H locs ls hP hD hS (lv_sub hl [0, 1, 2, 3] rfl)
set_option maxRecDepth 100000 in
set_option maxHeartbeats 8000000 in
theorem mX11_tint (l : Launch) {X : xsX} {mThrown mRemembered mHasImage mIsLaid mEvents mCrossings mEdges mTaped mPoint mEnd mBegin mFaultAt mActs : Int32} {mWorld mImage mDraft mEarlier mOne mTwo mShare mCrossingOf mBundle mEventOf mDegree mFrom mTo mMet mTape mFive mTold mFar mViews mHullX mHullY mEndX mEndY mMeets mMeetsOf : Nat → Int32} {mX mY mD mHeightUp mHeightLow : Int64} {mEventX mEventY mEventD mUpper mLower : Nat → Int64} {Rw : va_W} {a0 : Int32} {a1 : Int32} {out : Int32 × Int32 × (Nat → Int32) × (Nat → Int32) × Int32} (hf : fX11_tint mThrown mWorld mEarlier mRemembered a0 a1 = some out) : Met l yX11_tint (xsWs yX11_tint cX11_tint 4 (some .int)) { frames := 2, cells := 0, slots := 0, locals := 46 } (xsP X (wM X mThrown mWorld mImage mDraft mEarlier mRemembered mHasImage mIsLaid mOne mTwo mShare mX mY mD mEventX mEventY mEventD mEvents mCrossingOf mBundle mEventOf mDegree mFrom mTo mCrossings mEdges mMet mUpper mLower mTape mTaped mPoint mEnd mBegin mFaultAt mFive mTold mActs mFar mViews mHullX mHullY mEndX mEndY mHeightUp mHeightLow mMeets mMeetsOf Rw) [.ref (xsA X 100), .int a0, .int a1]) (xsQi X out.1 (wM X out.2.1 out.2.2.1 mImage mDraft out.2.2.2.1 out.2.2.2.2 mHasImage mIsLaid mOne mTwo mShare mX mY mD mEventX mEventY mEventD mEvents mCrossingOf mBundle mEventOf mDegree mFrom mTo mCrossings mEdges mMet mUpper mLower mTape mTaped mPoint mEnd mBegin mFaultAt mFive mTold mActs mFar mViews mHullX mHullY mEndX mEndY mHeightUp mHeightLow mMeets mMeetsOf Rw)) 0 0 (xsF X) := by
  refine xs_meth RX11 (by decide) rfl (Nat.le_of_ble_eq_true rfl) ?_
  intro p e s m below meth c ls H locs C hP hD hS hr hlk hl
  have hx := C.1
  have hb := C.2.1
  have hl : lv_has ls 4 [(0, .ref (xsA X 100)), (1, .int a0), (2, .int a1)] := hl
  obtain ⟨Qq, hQq⟩ : ∃ Qq, Qq = xsQi X out.1 (wM X out.2.1 out.2.2.1 mImage mDraft out.2.2.2.1 out.2.2.2.2 mHasImage mIsLaid mOne mTwo mShare mX mY mD mEventX mEventY mEventD mEvents mCrossingOf mBundle mEventOf mDegree mFrom mTo mCrossings mEdges mMet mUpper mLower mTape mTaped mPoint mEnd mBegin mFaultAt mFive mTold mActs mFar mViews mHullX mHullY mEndX mEndY mHeightUp mHeightLow mMeets mMeetsOf Rw) := ⟨_, rfl⟩
  rw [← hQq]
  unfold fX11_tint at hf
  refine lv_aload_n hx hb dX11_tint_0 rfl (lv_at hl 0 rfl) ?_
  refine lv_iload_n hx hb dX11_tint_1 rfl (lv_at hl 1 rfl) ?_
  replace hf := xsBd_use hf
  obtain ⟨o1, h2, hf⟩ := hf
  refine xs_calli hS (xs_runV (As := [.int a0]) C (mX11_noSegment l  h2) w_1638 w_1640 w_54 w_115 w_1641 hd_X11_noSegment ⟨rfl, rfl, Nat.le_of_ble_eq_true rfl, Nat.le_of_ble_eq_true rfl, Nat.zero_le _, Nat.zero_le _⟩ hP hD hS lk_X11 rfl hl.1 rfl (Nat.le_of_ble_eq_true rfl) dX11_tint_2) (fun H locs hP hD hS => ?_)
  refine lv_if_ne (tgt := 33) hx hb dX11_tint_5 (by decide) (fun c19 => ?_) (fun c19 => ?_)
  · replace hf := xsBr_f c19 hf
    refine lv_iconst (v := (0 : Int32)) hx hb dX11_tint_33 (by decide) ?_
    have ho := Option.some.inj hf
    subst ho
    rw [hQq]
    exact xs_iret C hr hlk hP hD hS dX11_tint_34
  · replace hf := xsBr_t c19 hf
    refine lv_aload_n hx hb dX11_tint_8 rfl (lv_at hl 0 rfl) ?_
    refine lv_iload_n hx hb dX11_tint_9 rfl (lv_at hl 2 rfl) ?_
    refine lv_i2l hx hb dX11_tint_10 rfl ?_
    refine lv_lconst (v := (0 : Int64)) hx hb dX11_tint_11 (by decide) ?_
    refine lv_ldc2 (v := (3 : Int64)) hx hb C.2.2.2.1 (xs_kts C _ w_1572) dX11_tint_12 ?_
    replace hf := xsBd_use hf
    obtain ⟨o3, h4, hf⟩ := hf
    refine xs_calli hS (xs_runS (As := [.long a1.toInt64, .long (0 : Int64), .long (3 : Int64)]) C (mX11_in l  h4) w_1573 w_1574 w_115 w_1575 hd_X11_in ⟨rfl, rfl, Nat.le_of_ble_eq_true rfl, Nat.le_of_ble_eq_true rfl, Nat.zero_le _, Nat.zero_le _⟩ hP hD hS hl.1 rfl (Nat.le_of_ble_eq_true rfl) dX11_tint_15) (fun H locs hP hD hS => ?_)
    have K17 : ∀ (y5 : Int32) (hf : fX11_tint_J26 mWorld mEarlier mRemembered a0 a1 o1 y5 = some out) (H : Heap) (locs : List Loc) (ls : Array Slot), va_P (xsD X) vwCl (wM X o1.2 mWorld mImage mDraft mEarlier mRemembered mHasImage mIsLaid mOne mTwo mShare mX mY mD mEventX mEventY mEventD mEvents mCrossingOf mBundle mEventOf mDegree mFrom mTo mCrossings mEdges mMet mUpper mLower mTape mTaped mPoint mEnd mBegin mFaultAt mFive mTold mActs mFar mViews mHullX mHullY mEndX mEndY mHeightUp mHeightLow mMeets mMeetsOf Rw) H → va_D (xsF X) (wM X o1.2 mWorld mImage mDraft mEarlier mRemembered mHasImage mIsLaid mOne mTwo mShare mX mY mD mEventX mEventY mEventD mEvents mCrossingOf mBundle mEventOf mDegree mFrom mTo mCrossings mEdges mMet mUpper mLower mTape mTaped mPoint mEnd mBegin mFaultAt mFive mTold mActs mFar mViews mHullX mHullY mEndX mEndY mHeightUp mHeightLow mMeets mMeetsOf Rw) → va_S (xsF X) s.heap H locs → lv_has ls 4 [(0, .ref (xsA X 100)), (1, .int a0), (2, .int a1)] → W p l e { frames := 2, cells := 0, slots := 0, locals := 46 } s m ([.ref (xsA X 100), .int a0, .int a1] : List Value).toArray below meth c H locs 0 0 (MQ below Qq ([.ref (xsA X 100), .int a0, .int a1] : List Value).toArray s 0 0 (xsF X)) (F0 m 26 ls [.int y5, .ref (xsA X 100)]) := by
      intro y5 hf H locs ls hP hD hS hl
      unfold fX11_tint_J26 at hf
      refine lv_iconst (v := (2 : Int32)) hx hb dX11_tint_26 (by decide) ?_
      replace hf := xsBd_use hf
      obtain ⟨o6, h7, hf⟩ := hf
      refine xs_calli hS (xs_runV (As := [.int y5, .int (2 : Int32)]) C (mX11_throwsIf l  h7) w_1502 w_1504 w_33 w_115 w_1505 hd_X11_throwsIf ⟨rfl, rfl, Nat.le_of_ble_eq_true rfl, Nat.le_of_ble_eq_true rfl, Nat.zero_le _, Nat.zero_le _⟩ hP hD hS lk_X11 rfl hl.1 rfl (Nat.le_of_ble_eq_true rfl) dX11_tint_27) (fun H locs hP hD hS => ?_)
      refine lv_if_eq (tgt := 35) hx hb dX11_tint_30 (by decide) (fun c14 => ?_) (fun c14 => ?_)
      · replace hf := xsBr_t c14 hf
        refine lv_aload_n hx hb dX11_tint_35 rfl (lv_at hl 0 rfl) ?_
        replace hf := xsBd_use hf
        obtain ⟨o8, h9, hf⟩ := hf
        refine xs_callv hS (xs_runV (As := []) C (mX11_remembers l  h9) w_1630 w_1632 w_53 w_115 w_1633 hd_X11_remembers ⟨rfl, rfl, Nat.le_of_ble_eq_true rfl, Nat.le_of_ble_eq_true rfl, Nat.zero_le _, Nat.zero_le _⟩ hP hD hS lk_X11 rfl hl.1 rfl (Nat.le_of_ble_eq_true rfl) dX11_tint_36) (fun H locs hP hD hS => ?_)
        refine lv_aload_n hx hb dX11_tint_39 rfl (lv_at hl 0 rfl) ?_
        refine lv_iload_n hx hb dX11_tint_40 rfl (lv_at hl 1 rfl) ?_
        refine lv_iconst (v := (4 : Int32)) hx hb dX11_tint_41 (by decide) ?_
        replace hf := xsBd_use hf
        obtain ⟨o10, h11, hf⟩ := hf
        refine xs_calli hS (xs_runV (As := [.int a0, .int (4 : Int32)]) C (mX11_of l  h11) w_1608 w_1610 w_50 w_115 w_1611 hd_X11_of ⟨rfl, rfl, Nat.le_of_ble_eq_true rfl, Nat.le_of_ble_eq_true rfl, Nat.zero_le _, Nat.zero_le _⟩ hP hD hS lk_X11 rfl hl.1 rfl (Nat.le_of_ble_eq_true rfl) dX11_tint_42) (fun H locs hP hD hS => ?_)
        refine lv_istore_n (lv' := [(3, .int o10), (0, .ref (xsA X 100)), (1, .int a0), (2, .int a1)]) hx hb dX11_tint_45 rfl hl (by decide) rfl (fun ls hl => ?_)
        refine lv_aload_n hx hb dX11_tint_46 rfl (lv_at hl 1 rfl) ?_
        refine xg_X11_13 C hP dX11_tint_47 ?_
        refine lv_iconst (v := (1 : Int32)) hx hb dX11_tint_50 (by decide) ?_
        refine lv_iconst (v := (5 : Int32)) hx hb dX11_tint_51 (by decide) ?_
        refine lv_iload_n hx hb dX11_tint_52 rfl (lv_at hl 2 rfl) ?_
        refine lv_imul hx hb dX11_tint_53 ?_
        refine lv_iadd hx hb dX11_tint_54 ?_
        refine lv_iconst (v := (4 : Int32)) hx hb dX11_tint_55 (by decide) ?_
        refine lv_iadd hx hb dX11_tint_56 ?_
        refine lv_iload_n hx hb dX11_tint_57 rfl (lv_at hl 3 rfl) ?_
        replace hf := xsCk_use hf
        obtain ⟨h12, hf⟩ := hf
        refine xs_mWorld C hP hD hS h12 dX11_tint_58 (fun f13 ef13 H locs hP hD hS => ?_)
        replace hf := xsLt_use ef13 hf
        refine lv_iload_n hx hb dX11_tint_59 rfl (lv_at hl 0 rfl) ?_
        have ho := Option.some.inj hf
        subst ho
        rw [hQq]
        exact xs_iret C hr hlk hP hD hS dX11_tint_60
      · replace hf := xsBr_f c14 hf
        refine lv_iconst (v := (0 : Int32)) hx hb dX11_tint_33 (by decide) ?_
        have ho := Option.some.inj hf
        subst ho
        rw [hQq]
        exact xs_iret C hr hlk hP hD hS dX11_tint_34
    replace hf := xsBd_use hf
    obtain ⟨v15, hf, hk16⟩ := hf
    refine lv_if_ne (tgt := 25) hx hb dX11_tint_18 (by decide) (fun c18 => ?_) (fun c18 => ?_)
    · replace hf := xsBr_f c18 hf
      refine lv_iconst (v := (0 : Int32)) hx hb dX11_tint_25 (by decide) ?_
      have ev := Option.some.inj hf
      subst ev
      exact K17 (0 : Int32) hk16 H locs ls hP hD hS (lv_sub hl [0, 1, 2] rfl)
    · replace hf := xsBr_t c18 hf
      refine lv_iconst (v := (1 : Int32)) hx hb dX11_tint_21 (by decide) ?_
      refine lv_goto (tgt := 26) hx hb dX11_tint_22 (by decide) ?_
      have ev := Option.some.inj hf
      subst ev
      exact K17 (1 : Int32) hk16 H locs ls hP hD hS (lv_sub hl [0, 1, 2] rfl)
set_option maxRecDepth 100000 in
set_option maxHeartbeats 8000000 in
theorem mX11_turn (l : Launch) {X : xsX} {mThrown mRemembered mHasImage mIsLaid mEvents mCrossings mEdges mTaped mPoint mEnd mBegin mFaultAt mActs : Int32} {mWorld mImage mDraft mEarlier mOne mTwo mShare mCrossingOf mBundle mEventOf mDegree mFrom mTo mMet mTape mFive mTold mFar mViews mHullX mHullY mEndX mEndY mMeets mMeetsOf : Nat → Int32} {mX mY mD mHeightUp mHeightLow : Int64} {mEventX mEventY mEventD mUpper mLower : Nat → Int64} {Rw : va_W} {out : Int32 × Int32 × (Nat → Int32) × (Nat → Int32) × Int32 × Int32 × (Nat → Int32) × (Nat → Int32) × (Nat → Int32) × Int64 × Int64 × Int64 × (Nat → Int64) × (Nat → Int64) × (Nat → Int64) × Int32 × (Nat → Int32) × (Nat → Int32) × (Nat → Int32) × (Nat → Int32) × (Nat → Int32) × (Nat → Int32) × Int32 × Int32} (hf : fX11_turn mThrown mWorld mEarlier mRemembered mIsLaid mOne mTwo mShare mX mY mD mEventX mEventY mEventD mEvents mCrossingOf mBundle mEventOf mDegree mFrom mTo mCrossings mEdges = some out) : Met l yX11_turn (xsWs yX11_turn cX11_turn 1 (some .int)) { frames := 6, cells := 0, slots := 0, locals := 164 } (xsP X (wM X mThrown mWorld mImage mDraft mEarlier mRemembered mHasImage mIsLaid mOne mTwo mShare mX mY mD mEventX mEventY mEventD mEvents mCrossingOf mBundle mEventOf mDegree mFrom mTo mCrossings mEdges mMet mUpper mLower mTape mTaped mPoint mEnd mBegin mFaultAt mFive mTold mActs mFar mViews mHullX mHullY mEndX mEndY mHeightUp mHeightLow mMeets mMeetsOf Rw) [.ref (xsA X 100)]) (xsQi X out.1 (wM X out.2.1 out.2.2.1 mImage mDraft out.2.2.2.1 out.2.2.2.2.1 mHasImage out.2.2.2.2.2.1 out.2.2.2.2.2.2.1 out.2.2.2.2.2.2.2.1 out.2.2.2.2.2.2.2.2.1 out.2.2.2.2.2.2.2.2.2.1 out.2.2.2.2.2.2.2.2.2.2.1 out.2.2.2.2.2.2.2.2.2.2.2.1 out.2.2.2.2.2.2.2.2.2.2.2.2.1 out.2.2.2.2.2.2.2.2.2.2.2.2.2.1 out.2.2.2.2.2.2.2.2.2.2.2.2.2.2.1 out.2.2.2.2.2.2.2.2.2.2.2.2.2.2.2.1 out.2.2.2.2.2.2.2.2.2.2.2.2.2.2.2.2.1 out.2.2.2.2.2.2.2.2.2.2.2.2.2.2.2.2.2.1 out.2.2.2.2.2.2.2.2.2.2.2.2.2.2.2.2.2.2.1 out.2.2.2.2.2.2.2.2.2.2.2.2.2.2.2.2.2.2.2.1 out.2.2.2.2.2.2.2.2.2.2.2.2.2.2.2.2.2.2.2.2.1 out.2.2.2.2.2.2.2.2.2.2.2.2.2.2.2.2.2.2.2.2.2.1 out.2.2.2.2.2.2.2.2.2.2.2.2.2.2.2.2.2.2.2.2.2.2.1 out.2.2.2.2.2.2.2.2.2.2.2.2.2.2.2.2.2.2.2.2.2.2.2 mMet mUpper mLower mTape mTaped mPoint mEnd mBegin mFaultAt mFive mTold mActs mFar mViews mHullX mHullY mEndX mEndY mHeightUp mHeightLow mMeets mMeetsOf Rw)) 0 0 (xsF X) := by
  refine xs_meth RX11 (by decide) rfl (Nat.le_of_ble_eq_true rfl) ?_
  intro p e s m below meth c ls H locs C hP hD hS hr hlk hl
  have hx := C.1
  have hb := C.2.1
  have hl : lv_has ls 1 [(0, .ref (xsA X 100))] := hl
  obtain ⟨Qq, hQq⟩ : ∃ Qq, Qq = xsQi X out.1 (wM X out.2.1 out.2.2.1 mImage mDraft out.2.2.2.1 out.2.2.2.2.1 mHasImage out.2.2.2.2.2.1 out.2.2.2.2.2.2.1 out.2.2.2.2.2.2.2.1 out.2.2.2.2.2.2.2.2.1 out.2.2.2.2.2.2.2.2.2.1 out.2.2.2.2.2.2.2.2.2.2.1 out.2.2.2.2.2.2.2.2.2.2.2.1 out.2.2.2.2.2.2.2.2.2.2.2.2.1 out.2.2.2.2.2.2.2.2.2.2.2.2.2.1 out.2.2.2.2.2.2.2.2.2.2.2.2.2.2.1 out.2.2.2.2.2.2.2.2.2.2.2.2.2.2.2.1 out.2.2.2.2.2.2.2.2.2.2.2.2.2.2.2.2.1 out.2.2.2.2.2.2.2.2.2.2.2.2.2.2.2.2.2.1 out.2.2.2.2.2.2.2.2.2.2.2.2.2.2.2.2.2.2.1 out.2.2.2.2.2.2.2.2.2.2.2.2.2.2.2.2.2.2.2.1 out.2.2.2.2.2.2.2.2.2.2.2.2.2.2.2.2.2.2.2.2.1 out.2.2.2.2.2.2.2.2.2.2.2.2.2.2.2.2.2.2.2.2.2.1 out.2.2.2.2.2.2.2.2.2.2.2.2.2.2.2.2.2.2.2.2.2.2.1 out.2.2.2.2.2.2.2.2.2.2.2.2.2.2.2.2.2.2.2.2.2.2.2 mMet mUpper mLower mTape mTaped mPoint mEnd mBegin mFaultAt mFive mTold mActs mFar mViews mHullX mHullY mEndX mEndY mHeightUp mHeightLow mMeets mMeetsOf Rw) := ⟨_, rfl⟩
  rw [← hQq]
  unfold fX11_turn at hf
  refine lv_aload_n hx hb dX11_turn_0 rfl (lv_at hl 0 rfl) ?_
  refine lv_iconst (v := (0 : Int32)) hx hb dX11_turn_1 (by decide) ?_
  refine xp_X11_3 C hP hD hS dX11_turn_2 (fun H locs hP hD hS => ?_)
  refine lv_aload_n hx hb dX11_turn_5 rfl (lv_at hl 0 rfl) ?_
  replace hf := xsBd_use hf
  obtain ⟨o1, h2, hf⟩ := hf
  refine xs_callv hS (xs_runV (As := []) C (mX11_remembers l  h2) w_1630 w_1632 w_53 w_115 w_1633 hd_X11_remembers ⟨rfl, rfl, Nat.le_of_ble_eq_true rfl, Nat.le_of_ble_eq_true rfl, Nat.zero_le _, Nat.zero_le _⟩ hP hD hS lk_X11 rfl hl.1 rfl (Nat.le_of_ble_eq_true rfl) dX11_turn_6) (fun H locs hP hD hS => ?_)
  refine lv_aload_n hx hb dX11_turn_9 rfl (lv_at hl 0 rfl) ?_
  replace hf := xsBd_use hf
  obtain ⟨o3, h4, hf⟩ := hf
  refine xs_callv hS (xs_runV (As := []) C (mX11_turns l  h4) w_1619 w_1621 w_52 w_115 w_1622 hd_X11_turns ⟨rfl, rfl, Nat.le_of_ble_eq_true rfl, Nat.le_of_ble_eq_true rfl, Nat.zero_le _, Nat.zero_le _⟩ hP hD hS lk_X11 rfl hl.1 rfl (Nat.le_of_ble_eq_true rfl) dX11_turn_10) (fun H locs hP hD hS => ?_)
  refine lv_aload_n hx hb dX11_turn_13 rfl (lv_at hl 0 rfl) ?_
  replace hf := xsBd_use hf
  obtain ⟨o5, h6, hf⟩ := hf
  refine xs_callv hS (xs_runV (As := []) C (mX11_lays l  h6) w_1646 w_1648 w_56 w_115 w_1649 hd_X11_lays ⟨rfl, rfl, Nat.le_of_ble_eq_true rfl, Nat.le_of_ble_eq_true rfl, Nat.zero_le _, Nat.zero_le _⟩ hP hD hS lk_X11 rfl hl.1 rfl (Nat.le_of_ble_eq_true rfl) dX11_turn_14) (fun H locs hP hD hS => ?_)
  refine lv_aload_n hx hb dX11_turn_17 rfl (lv_at hl 0 rfl) ?_
  refine xg_X11_193 C hP dX11_turn_18 ?_
  have ho := Option.some.inj hf
  subst ho
  rw [hQq]
  exact xs_iret C hr hlk hP hD hS dX11_turn_21
set_option maxRecDepth 100000 in
set_option maxHeartbeats 8000000 in
theorem mX11_tiedTo (l : Launch) {X : xsX} {mThrown mRemembered mHasImage mIsLaid mEvents mCrossings mEdges mTaped mPoint mEnd mBegin mFaultAt mActs : Int32} {mWorld mImage mDraft mEarlier mOne mTwo mShare mCrossingOf mBundle mEventOf mDegree mFrom mTo mMet mTape mFive mTold mFar mViews mHullX mHullY mEndX mEndY mMeets mMeetsOf : Nat → Int32} {mX mY mD mHeightUp mHeightLow : Int64} {mEventX mEventY mEventD mUpper mLower : Nat → Int64} {Rw : va_W} {a0 : Int32} {out : Int32 × (Nat → Int32) × (Nat → Int32) × (Nat → Int32) × Int64 × Int64 × Int64} (hf : fX11_tiedTo mWorld mOne mTwo mShare mX mY mD a0 = some out) : Met l yX11_tiedTo (xsWs yX11_tiedTo cX11_tiedTo 4 (some .int)) { frames := 5, cells := 0, slots := 0, locals := 141 } (xsP X (wM X mThrown mWorld mImage mDraft mEarlier mRemembered mHasImage mIsLaid mOne mTwo mShare mX mY mD mEventX mEventY mEventD mEvents mCrossingOf mBundle mEventOf mDegree mFrom mTo mCrossings mEdges mMet mUpper mLower mTape mTaped mPoint mEnd mBegin mFaultAt mFive mTold mActs mFar mViews mHullX mHullY mEndX mEndY mHeightUp mHeightLow mMeets mMeetsOf Rw) [.ref (xsA X 100), .int a0]) (xsQi X out.1 (wM X mThrown mWorld mImage mDraft mEarlier mRemembered mHasImage mIsLaid out.2.1 out.2.2.1 out.2.2.2.1 out.2.2.2.2.1 out.2.2.2.2.2.1 out.2.2.2.2.2.2 mEventX mEventY mEventD mEvents mCrossingOf mBundle mEventOf mDegree mFrom mTo mCrossings mEdges mMet mUpper mLower mTape mTaped mPoint mEnd mBegin mFaultAt mFive mTold mActs mFar mViews mHullX mHullY mEndX mEndY mHeightUp mHeightLow mMeets mMeetsOf Rw)) 0 0 (xsF X) := by
  refine xs_meth RX11 (by decide) rfl (Nat.le_of_ble_eq_true rfl) ?_
  intro p e s m below meth c ls H locs C hP hD hS hr hlk hl
  have hx := C.1
  have hb := C.2.1
  have hl : lv_has ls 4 [(0, .ref (xsA X 100)), (1, .int a0)] := hl
  obtain ⟨Qq, hQq⟩ : ∃ Qq, Qq = xsQi X out.1 (wM X mThrown mWorld mImage mDraft mEarlier mRemembered mHasImage mIsLaid out.2.1 out.2.2.1 out.2.2.2.1 out.2.2.2.2.1 out.2.2.2.2.2.1 out.2.2.2.2.2.2 mEventX mEventY mEventD mEvents mCrossingOf mBundle mEventOf mDegree mFrom mTo mCrossings mEdges mMet mUpper mLower mTape mTaped mPoint mEnd mBegin mFaultAt mFive mTold mActs mFar mViews mHullX mHullY mEndX mEndY mHeightUp mHeightLow mMeets mMeetsOf Rw) := ⟨_, rfl⟩
  rw [← hQq]
  unfold fX11_tiedTo at hf
  refine lv_iconst (v := (0 : Int32)) hx hb dX11_tiedTo_0 (by decide) ?_
  refine lv_istore_n (lv' := [(2, .int (0 : Int32)), (0, .ref (xsA X 100)), (1, .int a0)]) hx hb dX11_tiedTo_1 rfl hl (by decide) rfl (fun ls hl => ?_)
  refine lv_iconst (v := (0 : Int32)) hx hb dX11_tiedTo_2 (by decide) ?_
  refine lv_istore_n (lv' := [(3, .int (0 : Int32)), (2, .int (0 : Int32)), (0, .ref (xsA X 100)), (1, .int a0)]) hx hb dX11_tiedTo_3 rfl hl (by decide) rfl (fun ls hl => ?_)
  have K9 : ∀ (y10 : Int32) (y11 : Nat → Int32) (y12 : Nat → Int32) (y13 : Nat → Int32) (y14 : Int64) (y15 : Int64) (y16 : Int64) (hf : fX11_tiedTo_J42 y10 y11 y12 y13 y14 y15 y16 = some out) (H : Heap) (locs : List Loc) (ls : Array Slot), va_P (xsD X) vwCl (wM X mThrown mWorld mImage mDraft mEarlier mRemembered mHasImage mIsLaid y11 y12 y13 y14 y15 y16 mEventX mEventY mEventD mEvents mCrossingOf mBundle mEventOf mDegree mFrom mTo mCrossings mEdges mMet mUpper mLower mTape mTaped mPoint mEnd mBegin mFaultAt mFive mTold mActs mFar mViews mHullX mHullY mEndX mEndY mHeightUp mHeightLow mMeets mMeetsOf Rw) H → va_D (xsF X) (wM X mThrown mWorld mImage mDraft mEarlier mRemembered mHasImage mIsLaid y11 y12 y13 y14 y15 y16 mEventX mEventY mEventD mEvents mCrossingOf mBundle mEventOf mDegree mFrom mTo mCrossings mEdges mMet mUpper mLower mTape mTaped mPoint mEnd mBegin mFaultAt mFive mTold mActs mFar mViews mHullX mHullY mEndX mEndY mHeightUp mHeightLow mMeets mMeetsOf Rw) → va_S (xsF X) s.heap H locs → lv_has ls 4 [(2, .int y10)] → W p l e { frames := 5, cells := 0, slots := 0, locals := 141 } s m ([.ref (xsA X 100), .int a0] : List Value).toArray below meth c H locs 0 0 (MQ below Qq ([.ref (xsA X 100), .int a0] : List Value).toArray s 0 0 (xsF X)) (F0 m 42 ls []) := by
    intro y10 y11 y12 y13 y14 y15 y16 hf H locs ls hP hD hS hl
    unfold fX11_tiedTo_J42 at hf
    refine lv_iload_n hx hb dX11_tiedTo_42 rfl (lv_at hl 0 rfl) ?_
    have ho := Option.some.inj hf
    subst ho
    rw [hQq]
    exact xs_iret C hr hlk hP hD hS dX11_tiedTo_43
  replace hf := xsBd_use hf
  obtain ⟨r9, hk90, hf⟩ := hf
  have L9 : ∀ (sg : Int32 × Int32 × (Nat → Int32) × (Nat → Int32) × (Nat → Int32) × Int64 × Int64 × Int64) (rg : Int32 × (Nat → Int32) × (Nat → Int32) × (Nat → Int32) × Int64 × Int64 × Int64), xsWh (fun s9 => fX11_tiedTo_L4 mWorld a0 s9.1 s9.2.1 s9.2.2.1 s9.2.2.2.1 s9.2.2.2.2.1 s9.2.2.2.2.2.1 s9.2.2.2.2.2.2.1 s9.2.2.2.2.2.2.2) sg = some rg → (fX11_tiedTo_J42 rg.1 rg.2.1 rg.2.2.1 rg.2.2.2.1 rg.2.2.2.2.1 rg.2.2.2.2.2.1 rg.2.2.2.2.2.2 = some out → ∀ (H : Heap) (locs : List Loc) (ls : Array Slot), va_P (xsD X) vwCl (wM X mThrown mWorld mImage mDraft mEarlier mRemembered mHasImage mIsLaid sg.2.2.1 sg.2.2.2.1 sg.2.2.2.2.1 sg.2.2.2.2.2.1 sg.2.2.2.2.2.2.1 sg.2.2.2.2.2.2.2 mEventX mEventY mEventD mEvents mCrossingOf mBundle mEventOf mDegree mFrom mTo mCrossings mEdges mMet mUpper mLower mTape mTaped mPoint mEnd mBegin mFaultAt mFive mTold mActs mFar mViews mHullX mHullY mEndX mEndY mHeightUp mHeightLow mMeets mMeetsOf Rw) H → va_D (xsF X) (wM X mThrown mWorld mImage mDraft mEarlier mRemembered mHasImage mIsLaid sg.2.2.1 sg.2.2.2.1 sg.2.2.2.2.1 sg.2.2.2.2.2.1 sg.2.2.2.2.2.2.1 sg.2.2.2.2.2.2.2 mEventX mEventY mEventD mEvents mCrossingOf mBundle mEventOf mDegree mFrom mTo mCrossings mEdges mMet mUpper mLower mTape mTaped mPoint mEnd mBegin mFaultAt mFive mTold mActs mFar mViews mHullX mHullY mEndX mEndY mHeightUp mHeightLow mMeets mMeetsOf Rw) → va_S (xsF X) s.heap H locs → lv_has ls 4 [(0, .ref (xsA X 100)), (1, .int a0), (2, .int sg.1), (3, .int sg.2.1)] → W p l e { frames := 5, cells := 0, slots := 0, locals := 141 } s m ([.ref (xsA X 100), .int a0] : List Value).toArray below meth c H locs 0 0 (MQ below Qq ([.ref (xsA X 100), .int a0] : List Value).toArray s 0 0 (xsF X)) (F0 m 4 ls [])) := by
    refine xsWh_ind ?_
    intro sg r9 u9 hf ih9 hx9 hk9 H locs ls hP hD hS hl
    obtain ⟨y1, y2, y3, y4, y5, y6, y7, y8⟩ := sg
    replace hf : fX11_tiedTo_L4 mWorld a0 y1 y2 y3 y4 y5 y6 y7 y8 = some u9 := hf
    replace hl : lv_has ls 4 [(0, .ref (xsA X 100)), (1, .int a0), (2, .int y1), (3, .int y2)] := hl
    replace hP : va_P (xsD X) vwCl (wM X mThrown mWorld mImage mDraft mEarlier mRemembered mHasImage mIsLaid y3 y4 y5 y6 y7 y8 mEventX mEventY mEventD mEvents mCrossingOf mBundle mEventOf mDegree mFrom mTo mCrossings mEdges mMet mUpper mLower mTape mTaped mPoint mEnd mBegin mFaultAt mFive mTold mActs mFar mViews mHullX mHullY mEndX mEndY mHeightUp mHeightLow mMeets mMeetsOf Rw) H := hP
    replace hD : va_D (xsF X) (wM X mThrown mWorld mImage mDraft mEarlier mRemembered mHasImage mIsLaid y3 y4 y5 y6 y7 y8 mEventX mEventY mEventD mEvents mCrossingOf mBundle mEventOf mDegree mFrom mTo mCrossings mEdges mMet mUpper mLower mTape mTaped mPoint mEnd mBegin mFaultAt mFive mTold mActs mFar mViews mHullX mHullY mEndX mEndY mHeightUp mHeightLow mMeets mMeetsOf Rw) := hD
    unfold fX11_tiedTo_L4 at hf
    refine lv_iload_n hx hb dX11_tiedTo_4 rfl (lv_at hl 3 rfl) ?_
    refine lv_aload_n hx hb dX11_tiedTo_5 rfl (lv_at hl 0 rfl) ?_
    replace hf := xsBd_use hf
    obtain ⟨o17, h18, hf⟩ := hf
    refine xs_calli hS (xs_runV (As := []) C (mX11_many l  h18) w_1581 w_1583 w_44 w_115 w_1584 hd_X11_many ⟨rfl, rfl, Nat.le_of_ble_eq_true rfl, Nat.le_of_ble_eq_true rfl, Nat.zero_le _, Nat.zero_le _⟩ hP hD hS lk_X11 rfl hl.1 rfl (Nat.le_of_ble_eq_true rfl) dX11_tiedTo_6) (fun H locs hP hD hS => ?_)
    refine lv_icmp_ge (tgt := 42) hx hb dX11_tiedTo_9 (by decide) (fun c35 => ?_) (fun c35 => ?_)
    · replace hf := xsBr_t c35 hf
      have ez := hx9 _ (Option.some.inj hf).symm
      subst ez
      exact K9 y1 y3 y4 y5 y6 y7 y8 hk9 H locs ls hP hD hS (lv_sub hl [2] rfl)
    · replace hf := xsBr_f c35 hf
      refine lv_iload_n hx hb dX11_tiedTo_12 rfl (lv_at hl 2 rfl) ?_
      refine lv_iload_n hx hb dX11_tiedTo_13 rfl (lv_at hl 3 rfl) ?_
      refine lv_iload_n hx hb dX11_tiedTo_14 rfl (lv_at hl 1 rfl) ?_
      have K30 : ∀ (y19 : Int32) (y20 : Nat → Int32) (y21 : Nat → Int32) (y22 : Nat → Int32) (y23 : Int64) (y24 : Int64) (y25 : Int64) (hf : fX11_tiedTo_J34 y1 y2 y19 y20 y21 y22 y23 y24 y25 = some u9) (H : Heap) (locs : List Loc) (ls : Array Slot), va_P (xsD X) vwCl (wM X mThrown mWorld mImage mDraft mEarlier mRemembered mHasImage mIsLaid y20 y21 y22 y23 y24 y25 mEventX mEventY mEventD mEvents mCrossingOf mBundle mEventOf mDegree mFrom mTo mCrossings mEdges mMet mUpper mLower mTape mTaped mPoint mEnd mBegin mFaultAt mFive mTold mActs mFar mViews mHullX mHullY mEndX mEndY mHeightUp mHeightLow mMeets mMeetsOf Rw) H → va_D (xsF X) (wM X mThrown mWorld mImage mDraft mEarlier mRemembered mHasImage mIsLaid y20 y21 y22 y23 y24 y25 mEventX mEventY mEventD mEvents mCrossingOf mBundle mEventOf mDegree mFrom mTo mCrossings mEdges mMet mUpper mLower mTape mTaped mPoint mEnd mBegin mFaultAt mFive mTold mActs mFar mViews mHullX mHullY mEndX mEndY mHeightUp mHeightLow mMeets mMeetsOf Rw) → va_S (xsF X) s.heap H locs → lv_has ls 4 [(0, .ref (xsA X 100)), (1, .int a0), (3, .int y2)] → W p l e { frames := 5, cells := 0, slots := 0, locals := 141 } s m ([.ref (xsA X 100), .int a0] : List Value).toArray below meth c H locs 0 0 (MQ below Qq ([.ref (xsA X 100), .int a0] : List Value).toArray s 0 0 (xsF X)) (F0 m 34 ls [.int y19, .int y1]) := by
        intro y19 y20 y21 y22 y23 y24 y25 hf H locs ls hP hD hS hl
        unfold fX11_tiedTo_J34 at hf
        refine lv_ior hx hb dX11_tiedTo_34 ?_
        refine lv_topi (fun x26 ex26 => ?_)
        replace hf := xsLt_use ex26 hf
        refine lv_istore_n (lv' := [(2, .int x26), (0, .ref (xsA X 100)), (1, .int a0), (3, .int y2)]) hx hb dX11_tiedTo_35 rfl hl (by decide) rfl (fun ls hl => ?_)
        obtain ⟨x27, ex27⟩ : ∃ y : Int32, y = y2 + (1 : Int32) := ⟨_, rfl⟩
        replace hf := xsLt_use ex27 hf
        refine lv_iinc (v := x27) (lv' := [(3, .int x27), (2, .int x26), (0, .ref (xsA X 100)), (1, .int a0)]) hx hb dX11_tiedTo_36 hl (k := 3) rfl (by rw [ex27]; rfl) (by decide) rfl (fun ls hl => ?_)
        refine lv_goto (tgt := 4) hx hb dX11_tiedTo_39 (by decide) ?_
        exact ih9 _ (Option.some.inj hf).symm hk9 H locs ls hP hD hS (lv_sub hl [2, 3, 1, 0] rfl)
      replace hf := xsBd_use hf
      obtain ⟨v28, hf, hk29⟩ := hf
      refine lv_icmp_eq (tgt := 33) hx hb dX11_tiedTo_15 (by decide) (fun c34 => ?_) (fun c34 => ?_)
      · replace hf := xsBr_t c34 hf
        refine lv_iconst (v := (0 : Int32)) hx hb dX11_tiedTo_33 (by decide) ?_
        have ev := Option.some.inj hf
        subst ev
        exact K30 (0 : Int32) y3 y4 y5 y6 y7 y8 hk29 H locs ls hP hD hS (lv_sub hl [0, 1, 3] rfl)
      · replace hf := xsBr_f c34 hf
        refine lv_aload_n hx hb dX11_tiedTo_18 rfl (lv_at hl 0 rfl) ?_
        refine lv_iload_n hx hb dX11_tiedTo_19 rfl (lv_at hl 1 rfl) ?_
        refine lv_iload_n hx hb dX11_tiedTo_20 rfl (lv_at hl 3 rfl) ?_
        replace hf := xsBd_use hf
        obtain ⟨o31, h32, hf⟩ := hf
        refine xs_calli hS (xs_runV (As := [.int a0, .int y2]) C (mX11_sharesOf l  h32) w_1657 w_1659 w_58 w_115 w_1660 hd_X11_sharesOf ⟨rfl, rfl, Nat.le_of_ble_eq_true rfl, Nat.le_of_ble_eq_true rfl, Nat.zero_le _, Nat.zero_le _⟩ hP hD hS lk_X11 rfl hl.1 rfl (Nat.le_of_ble_eq_true rfl) dX11_tiedTo_21) (fun H locs hP hD hS => ?_)
        refine lv_if_eq (tgt := 33) hx hb dX11_tiedTo_24 (by decide) (fun c33 => ?_) (fun c33 => ?_)
        · replace hf := xsBr_t c33 hf
          refine lv_iconst (v := (0 : Int32)) hx hb dX11_tiedTo_33 (by decide) ?_
          have ev := Option.some.inj hf
          subst ev
          exact K30 (0 : Int32) o31.2.1 o31.2.2.1 o31.2.2.2.1 o31.2.2.2.2.1 o31.2.2.2.2.2.1 o31.2.2.2.2.2.2 hk29 H locs ls hP hD hS (lv_sub hl [0, 1, 3] rfl)
        · replace hf := xsBr_f c33 hf
          refine lv_iconst (v := (1 : Int32)) hx hb dX11_tiedTo_27 (by decide) ?_
          refine lv_iload_n hx hb dX11_tiedTo_28 rfl (lv_at hl 3 rfl) ?_
          refine lv_ishl hx hb dX11_tiedTo_29 ?_
          refine lv_goto (tgt := 34) hx hb dX11_tiedTo_30 (by decide) ?_
          have ev := Option.some.inj hf
          subst ev
          exact K30 ((1 : Int32) <<< (y2 &&& 31)) o31.2.1 o31.2.2.1 o31.2.2.2.1 o31.2.2.2.2.1 o31.2.2.2.2.2.1 o31.2.2.2.2.2.2 hk29 H locs ls hP hD hS (lv_sub hl [0, 1, 3] rfl)
  exact L9 ((0 : Int32), (0 : Int32), mOne, mTwo, mShare, mX, mY, mD) r9 hk90 hf H locs ls hP hD hS (lv_sub hl [2, 3, 1, 0] rfl)
set_option maxRecDepth 100000 in
set_option maxHeartbeats 8000000 in
theorem mX11_partOf (l : Launch) {X : xsX} {mThrown mRemembered mHasImage mIsLaid mEvents mCrossings mEdges mTaped mPoint mEnd mBegin mFaultAt mActs : Int32} {mWorld mImage mDraft mEarlier mOne mTwo mShare mCrossingOf mBundle mEventOf mDegree mFrom mTo mMet mTape mFive mTold mFar mViews mHullX mHullY mEndX mEndY mMeets mMeetsOf : Nat → Int32} {mX mY mD mHeightUp mHeightLow : Int64} {mEventX mEventY mEventD mUpper mLower : Nat → Int64} {Rw : va_W} {a0 : Int32} {out : Int32 × (Nat → Int32) × (Nat → Int32) × (Nat → Int32) × Int64 × Int64 × Int64} (hf : fX11_partOf mWorld mOne mTwo mShare mX mY mD a0 = some out) : Met l yX11_partOf (xsWs yX11_partOf cX11_partOf 5 (some .int)) { frames := 6, cells := 0, slots := 0, locals := 164 } (xsP X (wM X mThrown mWorld mImage mDraft mEarlier mRemembered mHasImage mIsLaid mOne mTwo mShare mX mY mD mEventX mEventY mEventD mEvents mCrossingOf mBundle mEventOf mDegree mFrom mTo mCrossings mEdges mMet mUpper mLower mTape mTaped mPoint mEnd mBegin mFaultAt mFive mTold mActs mFar mViews mHullX mHullY mEndX mEndY mHeightUp mHeightLow mMeets mMeetsOf Rw) [.ref (xsA X 100), .int a0]) (xsQi X out.1 (wM X mThrown mWorld mImage mDraft mEarlier mRemembered mHasImage mIsLaid out.2.1 out.2.2.1 out.2.2.2.1 out.2.2.2.2.1 out.2.2.2.2.2.1 out.2.2.2.2.2.2 mEventX mEventY mEventD mEvents mCrossingOf mBundle mEventOf mDegree mFrom mTo mCrossings mEdges mMet mUpper mLower mTape mTaped mPoint mEnd mBegin mFaultAt mFive mTold mActs mFar mViews mHullX mHullY mEndX mEndY mHeightUp mHeightLow mMeets mMeetsOf Rw)) 0 0 (xsF X) := by
  refine xs_meth RX11 (by decide) rfl (Nat.le_of_ble_eq_true rfl) ?_
  intro p e s m below meth c ls H locs C hP hD hS hr hlk hl
  have hx := C.1
  have hb := C.2.1
  have hl : lv_has ls 5 [(0, .ref (xsA X 100)), (1, .int a0)] := hl
  obtain ⟨Qq, hQq⟩ : ∃ Qq, Qq = xsQi X out.1 (wM X mThrown mWorld mImage mDraft mEarlier mRemembered mHasImage mIsLaid out.2.1 out.2.2.1 out.2.2.2.1 out.2.2.2.2.1 out.2.2.2.2.2.1 out.2.2.2.2.2.2 mEventX mEventY mEventD mEvents mCrossingOf mBundle mEventOf mDegree mFrom mTo mCrossings mEdges mMet mUpper mLower mTape mTaped mPoint mEnd mBegin mFaultAt mFive mTold mActs mFar mViews mHullX mHullY mEndX mEndY mHeightUp mHeightLow mMeets mMeetsOf Rw) := ⟨_, rfl⟩
  rw [← hQq]
  unfold fX11_partOf at hf
  refine lv_iconst (v := (1 : Int32)) hx hb dX11_partOf_0 (by decide) ?_
  refine lv_iload_n hx hb dX11_partOf_1 rfl (lv_at hl 1 rfl) ?_
  refine lv_ishl hx hb dX11_partOf_2 ?_
  refine lv_topi (fun x1 ex1 => ?_)
  replace hf := xsLt_use ex1 hf
  refine lv_istore_n (lv' := [(2, .int x1), (0, .ref (xsA X 100)), (1, .int a0)]) hx hb dX11_partOf_3 rfl hl (by decide) rfl (fun ls hl => ?_)
  refine lv_iconst (v := (0 : Int32)) hx hb dX11_partOf_4 (by decide) ?_
  refine lv_istore_n (lv' := [(3, .int (0 : Int32)), (2, .int x1), (0, .ref (xsA X 100)), (1, .int a0)]) hx hb dX11_partOf_5 rfl hl (by decide) rfl (fun ls hl => ?_)
  have K10 : ∀ (y11 : Int32) (y12 : Nat → Int32) (y13 : Nat → Int32) (y14 : Nat → Int32) (y15 : Int64) (y16 : Int64) (y17 : Int64) (hf : fX11_partOf_J56 y11 y12 y13 y14 y15 y16 y17 = some out) (H : Heap) (locs : List Loc) (ls : Array Slot), va_P (xsD X) vwCl (wM X mThrown mWorld mImage mDraft mEarlier mRemembered mHasImage mIsLaid y12 y13 y14 y15 y16 y17 mEventX mEventY mEventD mEvents mCrossingOf mBundle mEventOf mDegree mFrom mTo mCrossings mEdges mMet mUpper mLower mTape mTaped mPoint mEnd mBegin mFaultAt mFive mTold mActs mFar mViews mHullX mHullY mEndX mEndY mHeightUp mHeightLow mMeets mMeetsOf Rw) H → va_D (xsF X) (wM X mThrown mWorld mImage mDraft mEarlier mRemembered mHasImage mIsLaid y12 y13 y14 y15 y16 y17 mEventX mEventY mEventD mEvents mCrossingOf mBundle mEventOf mDegree mFrom mTo mCrossings mEdges mMet mUpper mLower mTape mTaped mPoint mEnd mBegin mFaultAt mFive mTold mActs mFar mViews mHullX mHullY mEndX mEndY mHeightUp mHeightLow mMeets mMeetsOf Rw) → va_S (xsF X) s.heap H locs → lv_has ls 5 [(2, .int y11)] → W p l e { frames := 6, cells := 0, slots := 0, locals := 164 } s m ([.ref (xsA X 100), .int a0] : List Value).toArray below meth c H locs 0 0 (MQ below Qq ([.ref (xsA X 100), .int a0] : List Value).toArray s 0 0 (xsF X)) (F0 m 56 ls []) := by
    intro y11 y12 y13 y14 y15 y16 y17 hf H locs ls hP hD hS hl
    unfold fX11_partOf_J56 at hf
    refine lv_iload_n hx hb dX11_partOf_56 rfl (lv_at hl 0 rfl) ?_
    have ho := Option.some.inj hf
    subst ho
    rw [hQq]
    exact xs_iret C hr hlk hP hD hS dX11_partOf_57
  replace hf := xsBd_use hf
  obtain ⟨r10, hk100, hf⟩ := hf
  have L10 : ∀ (sg : Int32 × Int32 × (Nat → Int32) × (Nat → Int32) × (Nat → Int32) × Int64 × Int64 × Int64) (rg : Int32 × (Nat → Int32) × (Nat → Int32) × (Nat → Int32) × Int64 × Int64 × Int64), xsWh (fun s10 => fX11_partOf_L6 mWorld s10.1 s10.2.1 s10.2.2.1 s10.2.2.2.1 s10.2.2.2.2.1 s10.2.2.2.2.2.1 s10.2.2.2.2.2.2.1 s10.2.2.2.2.2.2.2) sg = some rg → (fX11_partOf_J56 rg.1 rg.2.1 rg.2.2.1 rg.2.2.2.1 rg.2.2.2.2.1 rg.2.2.2.2.2.1 rg.2.2.2.2.2.2 = some out → ∀ (H : Heap) (locs : List Loc) (ls : Array Slot), va_P (xsD X) vwCl (wM X mThrown mWorld mImage mDraft mEarlier mRemembered mHasImage mIsLaid sg.2.2.1 sg.2.2.2.1 sg.2.2.2.2.1 sg.2.2.2.2.2.1 sg.2.2.2.2.2.2.1 sg.2.2.2.2.2.2.2 mEventX mEventY mEventD mEvents mCrossingOf mBundle mEventOf mDegree mFrom mTo mCrossings mEdges mMet mUpper mLower mTape mTaped mPoint mEnd mBegin mFaultAt mFive mTold mActs mFar mViews mHullX mHullY mEndX mEndY mHeightUp mHeightLow mMeets mMeetsOf Rw) H → va_D (xsF X) (wM X mThrown mWorld mImage mDraft mEarlier mRemembered mHasImage mIsLaid sg.2.2.1 sg.2.2.2.1 sg.2.2.2.2.1 sg.2.2.2.2.2.1 sg.2.2.2.2.2.2.1 sg.2.2.2.2.2.2.2 mEventX mEventY mEventD mEvents mCrossingOf mBundle mEventOf mDegree mFrom mTo mCrossings mEdges mMet mUpper mLower mTape mTaped mPoint mEnd mBegin mFaultAt mFive mTold mActs mFar mViews mHullX mHullY mEndX mEndY mHeightUp mHeightLow mMeets mMeetsOf Rw) → va_S (xsF X) s.heap H locs → lv_has ls 5 [(0, .ref (xsA X 100)), (2, .int sg.1), (3, .int sg.2.1)] → W p l e { frames := 6, cells := 0, slots := 0, locals := 164 } s m ([.ref (xsA X 100), .int a0] : List Value).toArray below meth c H locs 0 0 (MQ below Qq ([.ref (xsA X 100), .int a0] : List Value).toArray s 0 0 (xsF X)) (F0 m 6 ls [])) := by
    refine xsWh_ind ?_
    intro sg r10 u10 hf ih10 hx10 hk10 H locs ls hP hD hS hl
    obtain ⟨y2, y3, y4, y5, y6, y7, y8, y9⟩ := sg
    replace hf : fX11_partOf_L6 mWorld y2 y3 y4 y5 y6 y7 y8 y9 = some u10 := hf
    replace hl : lv_has ls 5 [(0, .ref (xsA X 100)), (2, .int y2), (3, .int y3)] := hl
    replace hP : va_P (xsD X) vwCl (wM X mThrown mWorld mImage mDraft mEarlier mRemembered mHasImage mIsLaid y4 y5 y6 y7 y8 y9 mEventX mEventY mEventD mEvents mCrossingOf mBundle mEventOf mDegree mFrom mTo mCrossings mEdges mMet mUpper mLower mTape mTaped mPoint mEnd mBegin mFaultAt mFive mTold mActs mFar mViews mHullX mHullY mEndX mEndY mHeightUp mHeightLow mMeets mMeetsOf Rw) H := hP
    replace hD : va_D (xsF X) (wM X mThrown mWorld mImage mDraft mEarlier mRemembered mHasImage mIsLaid y4 y5 y6 y7 y8 y9 mEventX mEventY mEventD mEvents mCrossingOf mBundle mEventOf mDegree mFrom mTo mCrossings mEdges mMet mUpper mLower mTape mTaped mPoint mEnd mBegin mFaultAt mFive mTold mActs mFar mViews mHullX mHullY mEndX mEndY mHeightUp mHeightLow mMeets mMeetsOf Rw) := hD
    unfold fX11_partOf_L6 at hf
    refine lv_iload_n hx hb dX11_partOf_6 rfl (lv_at hl 1 rfl) ?_
    refine lv_iload_n hx hb dX11_partOf_7 rfl (lv_at hl 2 rfl) ?_
    refine lv_icmp_eq (tgt := 56) hx hb dX11_partOf_8 (by decide) (fun c54 => ?_) (fun c54 => ?_)
    · replace hf := xsBr_t c54 hf
      have ez := hx10 _ (Option.some.inj hf).symm
      subst ez
      exact K10 y2 y4 y5 y6 y7 y8 y9 hk10 H locs ls hP hD hS (lv_sub hl [1] rfl)
    · replace hf := xsBr_f c54 hf
      refine lv_iload_n hx hb dX11_partOf_11 rfl (lv_at hl 1 rfl) ?_
      refine lv_istore_n (lv' := [(3, .int y2), (0, .ref (xsA X 100)), (2, .int y2)]) hx hb dX11_partOf_12 rfl hl (by decide) rfl (fun ls hl => ?_)
      refine lv_iconst (v := (0 : Int32)) hx hb dX11_partOf_13 (by decide) ?_
      refine lv_istore (lv' := [(4, .int (0 : Int32)), (3, .int y2), (0, .ref (xsA X 100)), (2, .int y2)]) hx hb dX11_partOf_14 hl (by decide) rfl (fun ls hl => ?_)
      have K26 : ∀ (y27 : Int32) (y28 : Nat → Int32) (y29 : Nat → Int32) (y30 : Nat → Int32) (y31 : Int64) (y32 : Int64) (y33 : Int64) (hf : fX11_partOf_J53 y2 y27 y28 y29 y30 y31 y32 y33 = some u10) (H : Heap) (locs : List Loc) (ls : Array Slot), va_P (xsD X) vwCl (wM X mThrown mWorld mImage mDraft mEarlier mRemembered mHasImage mIsLaid y28 y29 y30 y31 y32 y33 mEventX mEventY mEventD mEvents mCrossingOf mBundle mEventOf mDegree mFrom mTo mCrossings mEdges mMet mUpper mLower mTape mTaped mPoint mEnd mBegin mFaultAt mFive mTold mActs mFar mViews mHullX mHullY mEndX mEndY mHeightUp mHeightLow mMeets mMeetsOf Rw) H → va_D (xsF X) (wM X mThrown mWorld mImage mDraft mEarlier mRemembered mHasImage mIsLaid y28 y29 y30 y31 y32 y33 mEventX mEventY mEventD mEvents mCrossingOf mBundle mEventOf mDegree mFrom mTo mCrossings mEdges mMet mUpper mLower mTape mTaped mPoint mEnd mBegin mFaultAt mFive mTold mActs mFar mViews mHullX mHullY mEndX mEndY mHeightUp mHeightLow mMeets mMeetsOf Rw) → va_S (xsF X) s.heap H locs → lv_has ls 5 [(0, .ref (xsA X 100)), (2, .int y27), (3, .int y2)] → W p l e { frames := 6, cells := 0, slots := 0, locals := 164 } s m ([.ref (xsA X 100), .int a0] : List Value).toArray below meth c H locs 0 0 (MQ below Qq ([.ref (xsA X 100), .int a0] : List Value).toArray s 0 0 (xsF X)) (F0 m 53 ls []) := by
        intro y27 y28 y29 y30 y31 y32 y33 hf H locs ls hP hD hS hl
        unfold fX11_partOf_J53 at hf
        refine lv_goto (tgt := 6) hx hb dX11_partOf_53 (by decide) ?_
        exact ih10 _ (Option.some.inj hf).symm hk10 H locs ls hP hD hS (lv_sub hl [0, 1, 2] rfl)
      replace hf := xsBd_use hf
      obtain ⟨r26, hk260, hf⟩ := hf
      have L26 : ∀ (sg : Int32 × Int32 × (Nat → Int32) × (Nat → Int32) × (Nat → Int32) × Int64 × Int64 × Int64) (rg : Int32 × (Nat → Int32) × (Nat → Int32) × (Nat → Int32) × Int64 × Int64 × Int64), xsWh (fun s26 => fX11_partOf_L16 mWorld y2 s26.1 s26.2.1 s26.2.2.1 s26.2.2.2.1 s26.2.2.2.2.1 s26.2.2.2.2.2.1 s26.2.2.2.2.2.2.1 s26.2.2.2.2.2.2.2) sg = some rg → (fX11_partOf_J53 y2 rg.1 rg.2.1 rg.2.2.1 rg.2.2.2.1 rg.2.2.2.2.1 rg.2.2.2.2.2.1 rg.2.2.2.2.2.2 = some u10 → ∀ (H : Heap) (locs : List Loc) (ls : Array Slot), va_P (xsD X) vwCl (wM X mThrown mWorld mImage mDraft mEarlier mRemembered mHasImage mIsLaid sg.2.2.1 sg.2.2.2.1 sg.2.2.2.2.1 sg.2.2.2.2.2.1 sg.2.2.2.2.2.2.1 sg.2.2.2.2.2.2.2 mEventX mEventY mEventD mEvents mCrossingOf mBundle mEventOf mDegree mFrom mTo mCrossings mEdges mMet mUpper mLower mTape mTaped mPoint mEnd mBegin mFaultAt mFive mTold mActs mFar mViews mHullX mHullY mEndX mEndY mHeightUp mHeightLow mMeets mMeetsOf Rw) H → va_D (xsF X) (wM X mThrown mWorld mImage mDraft mEarlier mRemembered mHasImage mIsLaid sg.2.2.1 sg.2.2.2.1 sg.2.2.2.2.1 sg.2.2.2.2.2.1 sg.2.2.2.2.2.2.1 sg.2.2.2.2.2.2.2 mEventX mEventY mEventD mEvents mCrossingOf mBundle mEventOf mDegree mFrom mTo mCrossings mEdges mMet mUpper mLower mTape mTaped mPoint mEnd mBegin mFaultAt mFive mTold mActs mFar mViews mHullX mHullY mEndX mEndY mHeightUp mHeightLow mMeets mMeetsOf Rw) → va_S (xsF X) s.heap H locs → lv_has ls 5 [(0, .ref (xsA X 100)), (2, .int sg.1), (3, .int y2), (4, .int sg.2.1)] → W p l e { frames := 6, cells := 0, slots := 0, locals := 164 } s m ([.ref (xsA X 100), .int a0] : List Value).toArray below meth c H locs 0 0 (MQ below Qq ([.ref (xsA X 100), .int a0] : List Value).toArray s 0 0 (xsF X)) (F0 m 16 ls [])) := by
        refine xsWh_ind ?_
        intro sg r26 u26 hf ih26 hx26 hk26 H locs ls hP hD hS hl
        obtain ⟨y18, y19, y20, y21, y22, y23, y24, y25⟩ := sg
        replace hf : fX11_partOf_L16 mWorld y2 y18 y19 y20 y21 y22 y23 y24 y25 = some u26 := hf
        replace hl : lv_has ls 5 [(0, .ref (xsA X 100)), (2, .int y18), (3, .int y2), (4, .int y19)] := hl
        replace hP : va_P (xsD X) vwCl (wM X mThrown mWorld mImage mDraft mEarlier mRemembered mHasImage mIsLaid y20 y21 y22 y23 y24 y25 mEventX mEventY mEventD mEvents mCrossingOf mBundle mEventOf mDegree mFrom mTo mCrossings mEdges mMet mUpper mLower mTape mTaped mPoint mEnd mBegin mFaultAt mFive mTold mActs mFar mViews mHullX mHullY mEndX mEndY mHeightUp mHeightLow mMeets mMeetsOf Rw) H := hP
        replace hD : va_D (xsF X) (wM X mThrown mWorld mImage mDraft mEarlier mRemembered mHasImage mIsLaid y20 y21 y22 y23 y24 y25 mEventX mEventY mEventD mEvents mCrossingOf mBundle mEventOf mDegree mFrom mTo mCrossings mEdges mMet mUpper mLower mTape mTaped mPoint mEnd mBegin mFaultAt mFive mTold mActs mFar mViews mHullX mHullY mEndX mEndY mHeightUp mHeightLow mMeets mMeetsOf Rw) := hD
        unfold fX11_partOf_L16 at hf
        refine lv_iload hx hb dX11_partOf_16 (lv_at hl 3 rfl) ?_
        refine lv_aload_n hx hb dX11_partOf_18 rfl (lv_at hl 0 rfl) ?_
        replace hf := xsBd_use hf
        obtain ⟨o34, h35, hf⟩ := hf
        refine xs_calli hS (xs_runV (As := []) C (mX11_many l  h35) w_1581 w_1583 w_44 w_115 w_1584 hd_X11_many ⟨rfl, rfl, Nat.le_of_ble_eq_true rfl, Nat.le_of_ble_eq_true rfl, Nat.zero_le _, Nat.zero_le _⟩ hP hD hS lk_X11 rfl hl.1 rfl (Nat.le_of_ble_eq_true rfl) dX11_partOf_19) (fun H locs hP hD hS => ?_)
        refine lv_icmp_ge (tgt := 53) hx hb dX11_partOf_22 (by decide) (fun c53 => ?_) (fun c53 => ?_)
        · replace hf := xsBr_t c53 hf
          have ez := hx26 _ (Option.some.inj hf).symm
          subst ez
          exact K26 y18 y20 y21 y22 y23 y24 y25 hk26 H locs ls hP hD hS (lv_sub hl [0, 1, 2] rfl)
        · replace hf := xsBr_f c53 hf
          refine lv_iload_n hx hb dX11_partOf_25 rfl (lv_at hl 1 rfl) ?_
          refine lv_iload_n hx hb dX11_partOf_26 rfl (lv_at hl 2 rfl) ?_
          refine lv_iload hx hb dX11_partOf_27 (lv_at hl 3 rfl) ?_
          replace hf := xsBd_use hf
          obtain ⟨o36, h37, hf⟩ := hf
          refine xs_calli hS (xs_runS (As := [.int y2, .int y19]) C (mX11_holds l  h37) w_1700 w_1701 w_115 w_1702 hd_X11_holds ⟨rfl, rfl, Nat.le_of_ble_eq_true rfl, Nat.le_of_ble_eq_true rfl, Nat.zero_le _, Nat.zero_le _⟩ hP hD hS hl.1 rfl (Nat.le_of_ble_eq_true rfl) dX11_partOf_29) (fun H locs hP hD hS => ?_)
          have K49 : ∀ (y38 : Int32) (y39 : Nat → Int32) (y40 : Nat → Int32) (y41 : Nat → Int32) (y42 : Int64) (y43 : Int64) (y44 : Int64) (hf : fX11_partOf_J45 y18 y19 y38 y39 y40 y41 y42 y43 y44 = some u26) (H : Heap) (locs : List Loc) (ls : Array Slot), va_P (xsD X) vwCl (wM X mThrown mWorld mImage mDraft mEarlier mRemembered mHasImage mIsLaid y39 y40 y41 y42 y43 y44 mEventX mEventY mEventD mEvents mCrossingOf mBundle mEventOf mDegree mFrom mTo mCrossings mEdges mMet mUpper mLower mTape mTaped mPoint mEnd mBegin mFaultAt mFive mTold mActs mFar mViews mHullX mHullY mEndX mEndY mHeightUp mHeightLow mMeets mMeetsOf Rw) H → va_D (xsF X) (wM X mThrown mWorld mImage mDraft mEarlier mRemembered mHasImage mIsLaid y39 y40 y41 y42 y43 y44 mEventX mEventY mEventD mEvents mCrossingOf mBundle mEventOf mDegree mFrom mTo mCrossings mEdges mMet mUpper mLower mTape mTaped mPoint mEnd mBegin mFaultAt mFive mTold mActs mFar mViews mHullX mHullY mEndX mEndY mHeightUp mHeightLow mMeets mMeetsOf Rw) → va_S (xsF X) s.heap H locs → lv_has ls 5 [(0, .ref (xsA X 100)), (3, .int y2), (4, .int y19)] → W p l e { frames := 6, cells := 0, slots := 0, locals := 164 } s m ([.ref (xsA X 100), .int a0] : List Value).toArray below meth c H locs 0 0 (MQ below Qq ([.ref (xsA X 100), .int a0] : List Value).toArray s 0 0 (xsF X)) (F0 m 45 ls [.int y38, .int y18]) := by
            intro y38 y39 y40 y41 y42 y43 y44 hf H locs ls hP hD hS hl
            unfold fX11_partOf_J45 at hf
            refine lv_ior hx hb dX11_partOf_45 ?_
            refine lv_topi (fun x45 ex45 => ?_)
            replace hf := xsLt_use ex45 hf
            refine lv_istore_n (lv' := [(2, .int x45), (0, .ref (xsA X 100)), (3, .int y2), (4, .int y19)]) hx hb dX11_partOf_46 rfl hl (by decide) rfl (fun ls hl => ?_)
            obtain ⟨x46, ex46⟩ : ∃ y : Int32, y = y19 + (1 : Int32) := ⟨_, rfl⟩
            replace hf := xsLt_use ex46 hf
            refine lv_iinc (v := x46) (lv' := [(4, .int x46), (2, .int x45), (0, .ref (xsA X 100)), (3, .int y2)]) hx hb dX11_partOf_47 hl (k := 3) rfl (by rw [ex46]; rfl) (by decide) rfl (fun ls hl => ?_)
            refine lv_goto (tgt := 16) hx hb dX11_partOf_50 (by decide) ?_
            exact ih26 _ (Option.some.inj hf).symm hk26 H locs ls hP hD hS (lv_sub hl [2, 1, 3, 0] rfl)
          replace hf := xsBd_use hf
          obtain ⟨v47, hf, hk48⟩ := hf
          refine lv_if_eq (tgt := 44) hx hb dX11_partOf_32 (by decide) (fun c52 => ?_) (fun c52 => ?_)
          · replace hf := xsBr_t c52 hf
            refine lv_iconst (v := (0 : Int32)) hx hb dX11_partOf_44 (by decide) ?_
            have ev := Option.some.inj hf
            subst ev
            exact K49 (0 : Int32) y20 y21 y22 y23 y24 y25 hk48 H locs ls hP hD hS (lv_sub hl [0, 2, 3] rfl)
          · replace hf := xsBr_f c52 hf
            refine lv_aload_n hx hb dX11_partOf_35 rfl (lv_at hl 0 rfl) ?_
            refine lv_iload hx hb dX11_partOf_36 (lv_at hl 3 rfl) ?_
            replace hf := xsBd_use hf
            obtain ⟨o50, h51, hf⟩ := hf
            refine xs_calli hS (xs_runV (As := [.int y19]) C (mX11_tiedTo l  h51) w_1740 w_1742 w_70 w_115 w_1743 hd_X11_tiedTo ⟨rfl, rfl, Nat.le_of_ble_eq_true rfl, Nat.le_of_ble_eq_true rfl, Nat.zero_le _, Nat.zero_le _⟩ hP hD hS lk_X11 rfl hl.1 rfl (Nat.le_of_ble_eq_true rfl) dX11_partOf_38) (fun H locs hP hD hS => ?_)
            refine lv_goto (tgt := 45) hx hb dX11_partOf_41 (by decide) ?_
            have ev := Option.some.inj hf
            subst ev
            exact K49 o50.1 o50.2.1 o50.2.2.1 o50.2.2.2.1 o50.2.2.2.2.1 o50.2.2.2.2.2.1 o50.2.2.2.2.2.2 hk48 H locs ls hP hD hS (lv_sub hl [0, 2, 3] rfl)
      exact L26 (y2, (0 : Int32), y4, y5, y6, y7, y8, y9) r26 hk260 hf H locs ls hP hD hS (lv_sub hl [2, 3, 1, 0] rfl)
  exact L10 (x1, (0 : Int32), mOne, mTwo, mShare, mX, mY, mD) r10 hk100 hf H locs ls hP hD hS (lv_sub hl [2, 1, 0] rfl)
set_option maxRecDepth 100000 in
set_option maxHeartbeats 8000000 in
theorem mX11_kindOf (l : Launch) {X : xsX} {mThrown mRemembered mHasImage mIsLaid mEvents mCrossings mEdges mTaped mPoint mEnd mBegin mFaultAt mActs : Int32} {mWorld mImage mDraft mEarlier mOne mTwo mShare mCrossingOf mBundle mEventOf mDegree mFrom mTo mMet mTape mFive mTold mFar mViews mHullX mHullY mEndX mEndY mMeets mMeetsOf : Nat → Int32} {mX mY mD mHeightUp mHeightLow : Int64} {mEventX mEventY mEventD mUpper mLower : Nat → Int64} {Rw : va_W} {a0 : Int32} {out : Int32 × (Nat → Int32)} (hf : fX11_kindOf mWorld mOne a0 = some out) : Met l yX11_kindOf (xsWs yX11_kindOf cX11_kindOf 2 (some .int)) { frames := 2, cells := 0, slots := 0, locals := 45 } (xsP X (wM X mThrown mWorld mImage mDraft mEarlier mRemembered mHasImage mIsLaid mOne mTwo mShare mX mY mD mEventX mEventY mEventD mEvents mCrossingOf mBundle mEventOf mDegree mFrom mTo mCrossings mEdges mMet mUpper mLower mTape mTaped mPoint mEnd mBegin mFaultAt mFive mTold mActs mFar mViews mHullX mHullY mEndX mEndY mHeightUp mHeightLow mMeets mMeetsOf Rw) [.ref (xsA X 100), .int a0]) (xsQi X out.1 (wM X mThrown mWorld mImage mDraft mEarlier mRemembered mHasImage mIsLaid out.2 mTwo mShare mX mY mD mEventX mEventY mEventD mEvents mCrossingOf mBundle mEventOf mDegree mFrom mTo mCrossings mEdges mMet mUpper mLower mTape mTaped mPoint mEnd mBegin mFaultAt mFive mTold mActs mFar mViews mHullX mHullY mEndX mEndY mHeightUp mHeightLow mMeets mMeetsOf Rw)) 0 0 (xsF X) := by
  refine xs_meth RX11 (by decide) rfl (Nat.le_of_ble_eq_true rfl) ?_
  intro p e s m below meth c ls H locs C hP hD hS hr hlk hl
  have hx := C.1
  have hb := C.2.1
  have hl : lv_has ls 2 [(0, .ref (xsA X 100)), (1, .int a0)] := hl
  obtain ⟨Qq, hQq⟩ : ∃ Qq, Qq = xsQi X out.1 (wM X mThrown mWorld mImage mDraft mEarlier mRemembered mHasImage mIsLaid out.2 mTwo mShare mX mY mD mEventX mEventY mEventD mEvents mCrossingOf mBundle mEventOf mDegree mFrom mTo mCrossings mEdges mMet mUpper mLower mTape mTaped mPoint mEnd mBegin mFaultAt mFive mTold mActs mFar mViews mHullX mHullY mEndX mEndY mHeightUp mHeightLow mMeets mMeetsOf Rw) := ⟨_, rfl⟩
  rw [← hQq]
  unfold fX11_kindOf at hf
  refine lv_aload_n hx hb dX11_kindOf_0 rfl (lv_at hl 0 rfl) ?_
  refine lv_aload_n hx hb dX11_kindOf_1 rfl (lv_at hl 0 rfl) ?_
  refine xg_X11_26 C hP dX11_kindOf_2 ?_
  refine lv_iload_n hx hb dX11_kindOf_5 rfl (lv_at hl 1 rfl) ?_
  replace hf := xsBd_use hf
  obtain ⟨o1, h2, hf⟩ := hf
  refine xs_callv hS (xs_runV (As := [.ref (xsA X 105), .int a0]) C (mX11_takes l  h2) w_1661 w_1663 w_59 w_115 w_1664 hd_X11_takes ⟨rfl, rfl, Nat.le_of_ble_eq_true rfl, Nat.le_of_ble_eq_true rfl, Nat.zero_le _, Nat.zero_le _⟩ hP hD hS lk_X11 rfl hl.1 rfl (Nat.le_of_ble_eq_true rfl) dX11_kindOf_6) (fun H locs hP hD hS => ?_)
  refine lv_aload_n hx hb dX11_kindOf_9 rfl (lv_at hl 0 rfl) ?_
  refine xg_X11_26 C hP dX11_kindOf_10 ?_
  replace hf := xsBd_use hf
  obtain ⟨o3, h4, hf⟩ := hf
  refine xs_calli hS (xs_runS (As := [.ref (xsA X 105)]) C (mX11_isMere_v1 l  h4) w_1669 w_1670 w_115 w_1671 hd_X11_isMere ⟨rfl, rfl, Nat.le_of_ble_eq_true rfl, Nat.le_of_ble_eq_true rfl, Nat.zero_le _, Nat.zero_le _⟩ hP hD hS hl.1 rfl (Nat.le_of_ble_eq_true rfl) dX11_kindOf_13) (fun H locs hP hD hS => ?_)
  refine lv_if_eq (tgt := 23) hx hb dX11_kindOf_16 (by decide) (fun c13 => ?_) (fun c13 => ?_)
  · replace hf := xsBr_t c13 hf
    refine lv_aload_n hx hb dX11_kindOf_23 rfl (lv_at hl 0 rfl) ?_
    refine lv_iload_n hx hb dX11_kindOf_24 rfl (lv_at hl 1 rfl) ?_
    replace hf := xsBd_use hf
    obtain ⟨o5, h6, hf⟩ := hf
    refine xs_calli hS (xs_runV (As := [.int a0]) C (mX11_isUpright l  h6) w_1728 w_1730 w_67 w_115 w_1731 hd_X11_isUpright ⟨rfl, rfl, Nat.le_of_ble_eq_true rfl, Nat.le_of_ble_eq_true rfl, Nat.zero_le _, Nat.zero_le _⟩ hP hD hS lk_X11 rfl hl.1 rfl (Nat.le_of_ble_eq_true rfl) dX11_kindOf_25) (fun H locs hP hD hS => ?_)
    refine lv_if_eq (tgt := 35) hx hb dX11_kindOf_28 (by decide) (fun c12 => ?_) (fun c12 => ?_)
    · replace hf := xsBr_t c12 hf
      refine lv_aload_n hx hb dX11_kindOf_35 rfl (lv_at hl 0 rfl) ?_
      refine lv_iload_n hx hb dX11_kindOf_36 rfl (lv_at hl 1 rfl) ?_
      refine lv_iconst (v := (1 : Int32)) hx hb dX11_kindOf_37 (by decide) ?_
      replace hf := xsBd_use hf
      obtain ⟨o7, h8, hf⟩ := hf
      refine xs_calli hS (xs_runV (As := [.int a0, .int (1 : Int32)]) C (mX11_of l  h8) w_1608 w_1610 w_50 w_115 w_1611 hd_X11_of ⟨rfl, rfl, Nat.le_of_ble_eq_true rfl, Nat.le_of_ble_eq_true rfl, Nat.zero_le _, Nat.zero_le _⟩ hP hD hS lk_X11 rfl hl.1 rfl (Nat.le_of_ble_eq_true rfl) dX11_kindOf_38) (fun H locs hP hD hS => ?_)
      refine lv_aload_n hx hb dX11_kindOf_41 rfl (lv_at hl 0 rfl) ?_
      refine lv_iload_n hx hb dX11_kindOf_42 rfl (lv_at hl 1 rfl) ?_
      refine lv_iconst (v := (3 : Int32)) hx hb dX11_kindOf_43 (by decide) ?_
      replace hf := xsBd_use hf
      obtain ⟨o9, h10, hf⟩ := hf
      refine xs_calli hS (xs_runV (As := [.int a0, .int (3 : Int32)]) C (mX11_of l  h10) w_1608 w_1610 w_50 w_115 w_1611 hd_X11_of ⟨rfl, rfl, Nat.le_of_ble_eq_true rfl, Nat.le_of_ble_eq_true rfl, Nat.zero_le _, Nat.zero_le _⟩ hP hD hS lk_X11 rfl hl.1 rfl (Nat.le_of_ble_eq_true rfl) dX11_kindOf_44) (fun H locs hP hD hS => ?_)
      refine lv_icmp_ne (tgt := 54) hx hb dX11_kindOf_47 (by decide) (fun c11 => ?_) (fun c11 => ?_)
      · replace hf := xsBr_f c11 hf
        refine lv_iconst (v := (3 : Int32)) hx hb dX11_kindOf_54 (by decide) ?_
        have ho := Option.some.inj hf
        subst ho
        rw [hQq]
        exact xs_iret C hr hlk hP hD hS dX11_kindOf_55
      · replace hf := xsBr_t c11 hf
        refine lv_iconst (v := (2 : Int32)) hx hb dX11_kindOf_50 (by decide) ?_
        refine lv_goto (tgt := 55) hx hb dX11_kindOf_51 (by decide) ?_
        have ho := Option.some.inj hf
        subst ho
        rw [hQq]
        exact xs_iret C hr hlk hP hD hS dX11_kindOf_55
    · replace hf := xsBr_f c12 hf
      refine lv_iconst (v := (1 : Int32)) hx hb dX11_kindOf_31 (by decide) ?_
      refine lv_goto (tgt := 55) hx hb dX11_kindOf_32 (by decide) ?_
      have ho := Option.some.inj hf
      subst ho
      rw [hQq]
      exact xs_iret C hr hlk hP hD hS dX11_kindOf_55
  · replace hf := xsBr_f c13 hf
    refine lv_iconst (v := (0 : Int32)) hx hb dX11_kindOf_19 (by decide) ?_
    refine lv_goto (tgt := 55) hx hb dX11_kindOf_20 (by decide) ?_
    have ho := Option.some.inj hf
    subst ho
    rw [hQq]
    exact xs_iret C hr hlk hP hD hS dX11_kindOf_55
set_option maxRecDepth 100000 in
set_option maxHeartbeats 8000000 in
theorem mX11_eventsOn (l : Launch) {X : xsX} {mThrown mRemembered mHasImage mIsLaid mEvents mCrossings mEdges mTaped mPoint mEnd mBegin mFaultAt mActs : Int32} {mWorld mImage mDraft mEarlier mOne mTwo mShare mCrossingOf mBundle mEventOf mDegree mFrom mTo mMet mTape mFive mTold mFar mViews mHullX mHullY mEndX mEndY mMeets mMeetsOf : Nat → Int32} {mX mY mD mHeightUp mHeightLow : Int64} {mEventX mEventY mEventD mUpper mLower : Nat → Int64} {Rw : va_W} {a0 : Int32} {a1 : Int32} {out : Int32 × Int32 × (Nat → Int32) × (Nat → Int32) × (Nat → Int32) × Int64 × Int64 × Int64 × (Nat → Int64) × (Nat → Int64) × (Nat → Int64) × Int32 × (Nat → Int32) × (Nat → Int32) × (Nat → Int32) × (Nat → Int32) × (Nat → Int32) × (Nat → Int32) × Int32 × Int32} (hf : fX11_eventsOn mWorld mIsLaid mOne mTwo mShare mX mY mD mEventX mEventY mEventD mEvents mCrossingOf mBundle mEventOf mDegree mFrom mTo mCrossings mEdges a0 a1 = some out) : Met l yX11_eventsOn (xsWs yX11_eventsOn cX11_eventsOn 5 (some .int)) { frames := 6, cells := 0, slots := 0, locals := 164 } (xsP X (wM X mThrown mWorld mImage mDraft mEarlier mRemembered mHasImage mIsLaid mOne mTwo mShare mX mY mD mEventX mEventY mEventD mEvents mCrossingOf mBundle mEventOf mDegree mFrom mTo mCrossings mEdges mMet mUpper mLower mTape mTaped mPoint mEnd mBegin mFaultAt mFive mTold mActs mFar mViews mHullX mHullY mEndX mEndY mHeightUp mHeightLow mMeets mMeetsOf Rw) [.ref (xsA X 100), .int a0, .int a1]) (xsQi X out.1 (wM X mThrown mWorld mImage mDraft mEarlier mRemembered mHasImage out.2.1 out.2.2.1 out.2.2.2.1 out.2.2.2.2.1 out.2.2.2.2.2.1 out.2.2.2.2.2.2.1 out.2.2.2.2.2.2.2.1 out.2.2.2.2.2.2.2.2.1 out.2.2.2.2.2.2.2.2.2.1 out.2.2.2.2.2.2.2.2.2.2.1 out.2.2.2.2.2.2.2.2.2.2.2.1 out.2.2.2.2.2.2.2.2.2.2.2.2.1 out.2.2.2.2.2.2.2.2.2.2.2.2.2.1 out.2.2.2.2.2.2.2.2.2.2.2.2.2.2.1 out.2.2.2.2.2.2.2.2.2.2.2.2.2.2.2.1 out.2.2.2.2.2.2.2.2.2.2.2.2.2.2.2.2.1 out.2.2.2.2.2.2.2.2.2.2.2.2.2.2.2.2.2.1 out.2.2.2.2.2.2.2.2.2.2.2.2.2.2.2.2.2.2.1 out.2.2.2.2.2.2.2.2.2.2.2.2.2.2.2.2.2.2.2 mMet mUpper mLower mTape mTaped mPoint mEnd mBegin mFaultAt mFive mTold mActs mFar mViews mHullX mHullY mEndX mEndY mHeightUp mHeightLow mMeets mMeetsOf Rw)) 0 0 (xsF X) := by
  refine xs_meth RX11 (by decide) rfl (Nat.le_of_ble_eq_true rfl) ?_
  intro p e s m below meth c ls H locs C hP hD hS hr hlk hl
  have hx := C.1
  have hb := C.2.1
  have hl : lv_has ls 5 [(0, .ref (xsA X 100)), (1, .int a0), (2, .int a1)] := hl
  obtain ⟨Qq, hQq⟩ : ∃ Qq, Qq = xsQi X out.1 (wM X mThrown mWorld mImage mDraft mEarlier mRemembered mHasImage out.2.1 out.2.2.1 out.2.2.2.1 out.2.2.2.2.1 out.2.2.2.2.2.1 out.2.2.2.2.2.2.1 out.2.2.2.2.2.2.2.1 out.2.2.2.2.2.2.2.2.1 out.2.2.2.2.2.2.2.2.2.1 out.2.2.2.2.2.2.2.2.2.2.1 out.2.2.2.2.2.2.2.2.2.2.2.1 out.2.2.2.2.2.2.2.2.2.2.2.2.1 out.2.2.2.2.2.2.2.2.2.2.2.2.2.1 out.2.2.2.2.2.2.2.2.2.2.2.2.2.2.1 out.2.2.2.2.2.2.2.2.2.2.2.2.2.2.2.1 out.2.2.2.2.2.2.2.2.2.2.2.2.2.2.2.2.1 out.2.2.2.2.2.2.2.2.2.2.2.2.2.2.2.2.2.1 out.2.2.2.2.2.2.2.2.2.2.2.2.2.2.2.2.2.2.1 out.2.2.2.2.2.2.2.2.2.2.2.2.2.2.2.2.2.2.2 mMet mUpper mLower mTape mTaped mPoint mEnd mBegin mFaultAt mFive mTold mActs mFar mViews mHullX mHullY mEndX mEndY mHeightUp mHeightLow mMeets mMeetsOf Rw) := ⟨_, rfl⟩
  rw [← hQq]
  unfold fX11_eventsOn at hf
  refine lv_aload_n hx hb dX11_eventsOn_0 rfl (lv_at hl 0 rfl) ?_
  replace hf := xsBd_use hf
  obtain ⟨o1, h2, hf⟩ := hf
  refine xs_callv hS (xs_runV (As := []) C (mX11_lays l  h2) w_1646 w_1648 w_56 w_115 w_1649 hd_X11_lays ⟨rfl, rfl, Nat.le_of_ble_eq_true rfl, Nat.le_of_ble_eq_true rfl, Nat.zero_le _, Nat.zero_le _⟩ hP hD hS lk_X11 rfl hl.1 rfl (Nat.le_of_ble_eq_true rfl) dX11_eventsOn_1) (fun H locs hP hD hS => ?_)
  refine lv_iconst (v := (0 : Int32)) hx hb dX11_eventsOn_4 (by decide) ?_
  refine lv_istore_n (lv' := [(3, .int (0 : Int32)), (0, .ref (xsA X 100)), (1, .int a0), (2, .int a1)]) hx hb dX11_eventsOn_5 rfl hl (by decide) rfl (fun ls hl => ?_)
  refine lv_iconst (v := (0 : Int32)) hx hb dX11_eventsOn_6 (by decide) ?_
  refine lv_istore (lv' := [(4, .int (0 : Int32)), (3, .int (0 : Int32)), (0, .ref (xsA X 100)), (1, .int a0), (2, .int a1)]) hx hb dX11_eventsOn_7 hl (by decide) rfl (fun ls hl => ?_)
  have K5 : ∀ (y6 : Int32) (hf : fX11_eventsOn_J61 o1 y6 = some out) (H : Heap) (locs : List Loc) (ls : Array Slot), va_P (xsD X) vwCl (wM X mThrown mWorld mImage mDraft mEarlier mRemembered mHasImage o1.1 o1.2.1 o1.2.2.1 o1.2.2.2.1 o1.2.2.2.2.1 o1.2.2.2.2.2.1 o1.2.2.2.2.2.2.1 o1.2.2.2.2.2.2.2.1 o1.2.2.2.2.2.2.2.2.1 o1.2.2.2.2.2.2.2.2.2.1 o1.2.2.2.2.2.2.2.2.2.2.1 o1.2.2.2.2.2.2.2.2.2.2.2.1 o1.2.2.2.2.2.2.2.2.2.2.2.2.1 o1.2.2.2.2.2.2.2.2.2.2.2.2.2.1 o1.2.2.2.2.2.2.2.2.2.2.2.2.2.2.1 o1.2.2.2.2.2.2.2.2.2.2.2.2.2.2.2.1 o1.2.2.2.2.2.2.2.2.2.2.2.2.2.2.2.2.1 o1.2.2.2.2.2.2.2.2.2.2.2.2.2.2.2.2.2.1 o1.2.2.2.2.2.2.2.2.2.2.2.2.2.2.2.2.2.2 mMet mUpper mLower mTape mTaped mPoint mEnd mBegin mFaultAt mFive mTold mActs mFar mViews mHullX mHullY mEndX mEndY mHeightUp mHeightLow mMeets mMeetsOf Rw) H → va_D (xsF X) (wM X mThrown mWorld mImage mDraft mEarlier mRemembered mHasImage o1.1 o1.2.1 o1.2.2.1 o1.2.2.2.1 o1.2.2.2.2.1 o1.2.2.2.2.2.1 o1.2.2.2.2.2.2.1 o1.2.2.2.2.2.2.2.1 o1.2.2.2.2.2.2.2.2.1 o1.2.2.2.2.2.2.2.2.2.1 o1.2.2.2.2.2.2.2.2.2.2.1 o1.2.2.2.2.2.2.2.2.2.2.2.1 o1.2.2.2.2.2.2.2.2.2.2.2.2.1 o1.2.2.2.2.2.2.2.2.2.2.2.2.2.1 o1.2.2.2.2.2.2.2.2.2.2.2.2.2.2.1 o1.2.2.2.2.2.2.2.2.2.2.2.2.2.2.2.1 o1.2.2.2.2.2.2.2.2.2.2.2.2.2.2.2.2.1 o1.2.2.2.2.2.2.2.2.2.2.2.2.2.2.2.2.2.1 o1.2.2.2.2.2.2.2.2.2.2.2.2.2.2.2.2.2.2 mMet mUpper mLower mTape mTaped mPoint mEnd mBegin mFaultAt mFive mTold mActs mFar mViews mHullX mHullY mEndX mEndY mHeightUp mHeightLow mMeets mMeetsOf Rw) → va_S (xsF X) s.heap H locs → lv_has ls 5 [(3, .int y6)] → W p l e { frames := 6, cells := 0, slots := 0, locals := 164 } s m ([.ref (xsA X 100), .int a0, .int a1] : List Value).toArray below meth c H locs 0 0 (MQ below Qq ([.ref (xsA X 100), .int a0, .int a1] : List Value).toArray s 0 0 (xsF X)) (F0 m 61 ls []) := by
    intro y6 hf H locs ls hP hD hS hl
    unfold fX11_eventsOn_J61 at hf
    refine lv_iload_n hx hb dX11_eventsOn_61 rfl (lv_at hl 0 rfl) ?_
    have ho := Option.some.inj hf
    subst ho
    rw [hQq]
    exact xs_iret C hr hlk hP hD hS dX11_eventsOn_62
  replace hf := xsBd_use hf
  obtain ⟨r5, hk50, hf⟩ := hf
  have L5 : ∀ (sg : Int32 × Int32) (rg : Int32), xsWh (fun s5 => fX11_eventsOn_L9 a0 a1 o1 s5.1 s5.2) sg = some rg → (fX11_eventsOn_J61 o1 rg = some out → ∀ (H : Heap) (locs : List Loc) (ls : Array Slot), va_P (xsD X) vwCl (wM X mThrown mWorld mImage mDraft mEarlier mRemembered mHasImage o1.1 o1.2.1 o1.2.2.1 o1.2.2.2.1 o1.2.2.2.2.1 o1.2.2.2.2.2.1 o1.2.2.2.2.2.2.1 o1.2.2.2.2.2.2.2.1 o1.2.2.2.2.2.2.2.2.1 o1.2.2.2.2.2.2.2.2.2.1 o1.2.2.2.2.2.2.2.2.2.2.1 o1.2.2.2.2.2.2.2.2.2.2.2.1 o1.2.2.2.2.2.2.2.2.2.2.2.2.1 o1.2.2.2.2.2.2.2.2.2.2.2.2.2.1 o1.2.2.2.2.2.2.2.2.2.2.2.2.2.2.1 o1.2.2.2.2.2.2.2.2.2.2.2.2.2.2.2.1 o1.2.2.2.2.2.2.2.2.2.2.2.2.2.2.2.2.1 o1.2.2.2.2.2.2.2.2.2.2.2.2.2.2.2.2.2.1 o1.2.2.2.2.2.2.2.2.2.2.2.2.2.2.2.2.2.2 mMet mUpper mLower mTape mTaped mPoint mEnd mBegin mFaultAt mFive mTold mActs mFar mViews mHullX mHullY mEndX mEndY mHeightUp mHeightLow mMeets mMeetsOf Rw) H → va_D (xsF X) (wM X mThrown mWorld mImage mDraft mEarlier mRemembered mHasImage o1.1 o1.2.1 o1.2.2.1 o1.2.2.2.1 o1.2.2.2.2.1 o1.2.2.2.2.2.1 o1.2.2.2.2.2.2.1 o1.2.2.2.2.2.2.2.1 o1.2.2.2.2.2.2.2.2.1 o1.2.2.2.2.2.2.2.2.2.1 o1.2.2.2.2.2.2.2.2.2.2.1 o1.2.2.2.2.2.2.2.2.2.2.2.1 o1.2.2.2.2.2.2.2.2.2.2.2.2.1 o1.2.2.2.2.2.2.2.2.2.2.2.2.2.1 o1.2.2.2.2.2.2.2.2.2.2.2.2.2.2.1 o1.2.2.2.2.2.2.2.2.2.2.2.2.2.2.2.1 o1.2.2.2.2.2.2.2.2.2.2.2.2.2.2.2.2.1 o1.2.2.2.2.2.2.2.2.2.2.2.2.2.2.2.2.2.1 o1.2.2.2.2.2.2.2.2.2.2.2.2.2.2.2.2.2.2 mMet mUpper mLower mTape mTaped mPoint mEnd mBegin mFaultAt mFive mTold mActs mFar mViews mHullX mHullY mEndX mEndY mHeightUp mHeightLow mMeets mMeetsOf Rw) → va_S (xsF X) s.heap H locs → lv_has ls 5 [(0, .ref (xsA X 100)), (1, .int a0), (2, .int a1), (3, .int sg.1), (4, .int sg.2)] → W p l e { frames := 6, cells := 0, slots := 0, locals := 164 } s m ([.ref (xsA X 100), .int a0, .int a1] : List Value).toArray below meth c H locs 0 0 (MQ below Qq ([.ref (xsA X 100), .int a0, .int a1] : List Value).toArray s 0 0 (xsF X)) (F0 m 9 ls [])) := by
    refine xsWh_ind ?_
    intro sg r5 u5 hf ih5 hx5 hk5 H locs ls hP hD hS hl
    obtain ⟨y3, y4⟩ := sg
    replace hf : fX11_eventsOn_L9 a0 a1 o1 y3 y4 = some u5 := hf
    replace hl : lv_has ls 5 [(0, .ref (xsA X 100)), (1, .int a0), (2, .int a1), (3, .int y3), (4, .int y4)] := hl
    replace hP : va_P (xsD X) vwCl (wM X mThrown mWorld mImage mDraft mEarlier mRemembered mHasImage o1.1 o1.2.1 o1.2.2.1 o1.2.2.2.1 o1.2.2.2.2.1 o1.2.2.2.2.2.1 o1.2.2.2.2.2.2.1 o1.2.2.2.2.2.2.2.1 o1.2.2.2.2.2.2.2.2.1 o1.2.2.2.2.2.2.2.2.2.1 o1.2.2.2.2.2.2.2.2.2.2.1 o1.2.2.2.2.2.2.2.2.2.2.2.1 o1.2.2.2.2.2.2.2.2.2.2.2.2.1 o1.2.2.2.2.2.2.2.2.2.2.2.2.2.1 o1.2.2.2.2.2.2.2.2.2.2.2.2.2.2.1 o1.2.2.2.2.2.2.2.2.2.2.2.2.2.2.2.1 o1.2.2.2.2.2.2.2.2.2.2.2.2.2.2.2.2.1 o1.2.2.2.2.2.2.2.2.2.2.2.2.2.2.2.2.2.1 o1.2.2.2.2.2.2.2.2.2.2.2.2.2.2.2.2.2.2 mMet mUpper mLower mTape mTaped mPoint mEnd mBegin mFaultAt mFive mTold mActs mFar mViews mHullX mHullY mEndX mEndY mHeightUp mHeightLow mMeets mMeetsOf Rw) H := hP
    replace hD : va_D (xsF X) (wM X mThrown mWorld mImage mDraft mEarlier mRemembered mHasImage o1.1 o1.2.1 o1.2.2.1 o1.2.2.2.1 o1.2.2.2.2.1 o1.2.2.2.2.2.1 o1.2.2.2.2.2.2.1 o1.2.2.2.2.2.2.2.1 o1.2.2.2.2.2.2.2.2.1 o1.2.2.2.2.2.2.2.2.2.1 o1.2.2.2.2.2.2.2.2.2.2.1 o1.2.2.2.2.2.2.2.2.2.2.2.1 o1.2.2.2.2.2.2.2.2.2.2.2.2.1 o1.2.2.2.2.2.2.2.2.2.2.2.2.2.1 o1.2.2.2.2.2.2.2.2.2.2.2.2.2.2.1 o1.2.2.2.2.2.2.2.2.2.2.2.2.2.2.2.1 o1.2.2.2.2.2.2.2.2.2.2.2.2.2.2.2.2.1 o1.2.2.2.2.2.2.2.2.2.2.2.2.2.2.2.2.2.1 o1.2.2.2.2.2.2.2.2.2.2.2.2.2.2.2.2.2.2 mMet mUpper mLower mTape mTaped mPoint mEnd mBegin mFaultAt mFive mTold mActs mFar mViews mHullX mHullY mEndX mEndY mHeightUp mHeightLow mMeets mMeetsOf Rw) := hD
    unfold fX11_eventsOn_L9 at hf
    refine lv_iload hx hb dX11_eventsOn_9 (lv_at hl 4 rfl) ?_
    refine lv_aload_n hx hb dX11_eventsOn_11 rfl (lv_at hl 0 rfl) ?_
    refine xg_X11_193 C hP dX11_eventsOn_12 ?_
    refine lv_icmp_ge (tgt := 61) hx hb dX11_eventsOn_15 (by decide) (fun c20 => ?_) (fun c20 => ?_)
    · replace hf := xsBr_t c20 hf
      have ez := hx5 _ (Option.some.inj hf).symm
      subst ez
      exact K5 y3 hk5 H locs ls hP hD hS (lv_sub hl [3] rfl)
    · replace hf := xsBr_f c20 hf
      refine lv_iload_n hx hb dX11_eventsOn_18 rfl (lv_at hl 3 rfl) ?_
      refine lv_aload_n hx hb dX11_eventsOn_19 rfl (lv_at hl 0 rfl) ?_
      refine xg_X11_48 C hP dX11_eventsOn_20 ?_
      refine lv_iload hx hb dX11_eventsOn_23 (lv_at hl 4 rfl) ?_
      replace hf := xsCk_use hf
      obtain ⟨h7, hf⟩ := hf
      refine xl_mBundle C hP h7 dX11_eventsOn_25 ?_
      refine lv_iload_n hx hb dX11_eventsOn_26 rfl (lv_at hl 1 rfl) ?_
      replace hf := xsBd_use hf
      obtain ⟨o8, h9, hf⟩ := hf
      refine xs_calli hS (xs_runS (As := [.int (o1.2.2.2.2.2.2.2.2.2.2.2.2.1 y4.toNatClampNeg), .int a0]) C (mX11_holds l  h9) w_1700 w_1701 w_115 w_1702 hd_X11_holds ⟨rfl, rfl, Nat.le_of_ble_eq_true rfl, Nat.le_of_ble_eq_true rfl, Nat.zero_le _, Nat.zero_le _⟩ hP hD hS hl.1 rfl (Nat.le_of_ble_eq_true rfl) dX11_eventsOn_27) (fun H locs hP hD hS => ?_)
      have K15 : ∀ (y10 : Int32) (hf : fX11_eventsOn_J53 y3 y4 y10 = some u5) (H : Heap) (locs : List Loc) (ls : Array Slot), va_P (xsD X) vwCl (wM X mThrown mWorld mImage mDraft mEarlier mRemembered mHasImage o1.1 o1.2.1 o1.2.2.1 o1.2.2.2.1 o1.2.2.2.2.1 o1.2.2.2.2.2.1 o1.2.2.2.2.2.2.1 o1.2.2.2.2.2.2.2.1 o1.2.2.2.2.2.2.2.2.1 o1.2.2.2.2.2.2.2.2.2.1 o1.2.2.2.2.2.2.2.2.2.2.1 o1.2.2.2.2.2.2.2.2.2.2.2.1 o1.2.2.2.2.2.2.2.2.2.2.2.2.1 o1.2.2.2.2.2.2.2.2.2.2.2.2.2.1 o1.2.2.2.2.2.2.2.2.2.2.2.2.2.2.1 o1.2.2.2.2.2.2.2.2.2.2.2.2.2.2.2.1 o1.2.2.2.2.2.2.2.2.2.2.2.2.2.2.2.2.1 o1.2.2.2.2.2.2.2.2.2.2.2.2.2.2.2.2.2.1 o1.2.2.2.2.2.2.2.2.2.2.2.2.2.2.2.2.2.2 mMet mUpper mLower mTape mTaped mPoint mEnd mBegin mFaultAt mFive mTold mActs mFar mViews mHullX mHullY mEndX mEndY mHeightUp mHeightLow mMeets mMeetsOf Rw) H → va_D (xsF X) (wM X mThrown mWorld mImage mDraft mEarlier mRemembered mHasImage o1.1 o1.2.1 o1.2.2.1 o1.2.2.2.1 o1.2.2.2.2.1 o1.2.2.2.2.2.1 o1.2.2.2.2.2.2.1 o1.2.2.2.2.2.2.2.1 o1.2.2.2.2.2.2.2.2.1 o1.2.2.2.2.2.2.2.2.2.1 o1.2.2.2.2.2.2.2.2.2.2.1 o1.2.2.2.2.2.2.2.2.2.2.2.1 o1.2.2.2.2.2.2.2.2.2.2.2.2.1 o1.2.2.2.2.2.2.2.2.2.2.2.2.2.1 o1.2.2.2.2.2.2.2.2.2.2.2.2.2.2.1 o1.2.2.2.2.2.2.2.2.2.2.2.2.2.2.2.1 o1.2.2.2.2.2.2.2.2.2.2.2.2.2.2.2.2.1 o1.2.2.2.2.2.2.2.2.2.2.2.2.2.2.2.2.2.1 o1.2.2.2.2.2.2.2.2.2.2.2.2.2.2.2.2.2.2 mMet mUpper mLower mTape mTaped mPoint mEnd mBegin mFaultAt mFive mTold mActs mFar mViews mHullX mHullY mEndX mEndY mHeightUp mHeightLow mMeets mMeetsOf Rw) → va_S (xsF X) s.heap H locs → lv_has ls 5 [(0, .ref (xsA X 100)), (1, .int a0), (2, .int a1), (4, .int y4)] → W p l e { frames := 6, cells := 0, slots := 0, locals := 164 } s m ([.ref (xsA X 100), .int a0, .int a1] : List Value).toArray below meth c H locs 0 0 (MQ below Qq ([.ref (xsA X 100), .int a0, .int a1] : List Value).toArray s 0 0 (xsF X)) (F0 m 53 ls [.int y10, .int y3]) := by
        intro y10 hf H locs ls hP hD hS hl
        unfold fX11_eventsOn_J53 at hf
        refine lv_iadd hx hb dX11_eventsOn_53 ?_
        refine lv_topi (fun x11 ex11 => ?_)
        replace hf := xsLt_use ex11 hf
        refine lv_istore_n (lv' := [(3, .int x11), (0, .ref (xsA X 100)), (1, .int a0), (2, .int a1), (4, .int y4)]) hx hb dX11_eventsOn_54 rfl hl (by decide) rfl (fun ls hl => ?_)
        obtain ⟨x12, ex12⟩ : ∃ y : Int32, y = y4 + (1 : Int32) := ⟨_, rfl⟩
        replace hf := xsLt_use ex12 hf
        refine lv_iinc (v := x12) (lv' := [(4, .int x12), (3, .int x11), (0, .ref (xsA X 100)), (1, .int a0), (2, .int a1)]) hx hb dX11_eventsOn_55 hl (k := 4) rfl (by rw [ex12]; rfl) (by decide) rfl (fun ls hl => ?_)
        refine lv_goto (tgt := 9) hx hb dX11_eventsOn_58 (by decide) ?_
        exact ih5 _ (Option.some.inj hf).symm hk5 H locs ls hP hD hS (lv_sub hl [2, 3, 4, 1, 0] rfl)
      replace hf := xsBd_use hf
      obtain ⟨v13, hf, hk14⟩ := hf
      refine lv_if_eq (tgt := 52) hx hb dX11_eventsOn_30 (by decide) (fun c19 => ?_) (fun c19 => ?_)
      · replace hf := xsBr_t c19 hf
        refine lv_iconst (v := (0 : Int32)) hx hb dX11_eventsOn_52 (by decide) ?_
        have ev := Option.some.inj hf
        subst ev
        exact K15 (0 : Int32) hk14 H locs ls hP hD hS (lv_sub hl [0, 1, 2, 4] rfl)
      · replace hf := xsBr_f c19 hf
        refine lv_iload_n hx hb dX11_eventsOn_33 rfl (lv_at hl 2 rfl) ?_
        refine lv_if_eq (tgt := 48) hx hb dX11_eventsOn_34 (by decide) (fun c18 => ?_) (fun c18 => ?_)
        · replace hf := xsBr_t c18 hf
          refine lv_iconst (v := (1 : Int32)) hx hb dX11_eventsOn_48 (by decide) ?_
          refine lv_goto (tgt := 53) hx hb dX11_eventsOn_49 (by decide) ?_
          have ev := Option.some.inj hf
          subst ev
          exact K15 (1 : Int32) hk14 H locs ls hP hD hS (lv_sub hl [0, 1, 2, 4] rfl)
        · replace hf := xsBr_f c18 hf
          refine lv_aload_n hx hb dX11_eventsOn_37 rfl (lv_at hl 0 rfl) ?_
          refine xg_X11_45 C hP dX11_eventsOn_38 ?_
          refine lv_iload hx hb dX11_eventsOn_41 (lv_at hl 4 rfl) ?_
          replace hf := xsCk_use hf
          obtain ⟨h16, hf⟩ := hf
          refine xl_mCrossingOf C hP h16 dX11_eventsOn_43 ?_
          refine lv_iconst (v := (-1 : Int32)) hx hb dX11_eventsOn_44 (by decide) ?_
          refine lv_icmp_eq (tgt := 52) hx hb dX11_eventsOn_45 (by decide) (fun c17 => ?_) (fun c17 => ?_)
          · replace hf := xsBr_t c17 hf
            refine lv_iconst (v := (0 : Int32)) hx hb dX11_eventsOn_52 (by decide) ?_
            have ev := Option.some.inj hf
            subst ev
            exact K15 (0 : Int32) hk14 H locs ls hP hD hS (lv_sub hl [0, 1, 2, 4] rfl)
          · replace hf := xsBr_f c17 hf
            refine lv_iconst (v := (1 : Int32)) hx hb dX11_eventsOn_48 (by decide) ?_
            refine lv_goto (tgt := 53) hx hb dX11_eventsOn_49 (by decide) ?_
            have ev := Option.some.inj hf
            subst ev
            exact K15 (1 : Int32) hk14 H locs ls hP hD hS (lv_sub hl [0, 1, 2, 4] rfl)
  exact L5 ((0 : Int32), (0 : Int32)) r5 hk50 hf H locs ls hP hD hS (lv_sub hl [2, 3, 4, 1, 0] rfl)
set_option maxRecDepth 100000 in
set_option maxHeartbeats 8000000 in
theorem mX11_segment (l : Launch) {X : xsX} {mThrown mRemembered mHasImage mIsLaid mEvents mCrossings mEdges mTaped mPoint mEnd mBegin mFaultAt mActs : Int32} {mWorld mImage mDraft mEarlier mOne mTwo mShare mCrossingOf mBundle mEventOf mDegree mFrom mTo mMet mTape mFive mTold mFar mViews mHullX mHullY mEndX mEndY mMeets mMeetsOf : Nat → Int32} {mX mY mD mHeightUp mHeightLow : Int64} {mEventX mEventY mEventD mUpper mLower : Nat → Int64} {Rw : va_W} {a0 : Int32} {a1 : Int32} {out : Int32 × Int32 × Int32 × (Nat → Int32) × (Nat → Int32) × (Nat → Int32) × Int64 × Int64 × Int64 × (Nat → Int64) × (Nat → Int64) × (Nat → Int64) × Int32 × (Nat → Int32) × (Nat → Int32) × (Nat → Int32) × (Nat → Int32) × (Nat → Int32) × (Nat → Int32) × Int32 × Int32} (hf : fX11_segment mThrown mWorld mIsLaid mOne mTwo mShare mX mY mD mEventX mEventY mEventD mEvents mCrossingOf mBundle mEventOf mDegree mFrom mTo mCrossings mEdges a0 a1 = some out) : Met l yX11_segment (xsWs yX11_segment cX11_segment 3 (some .int)) { frames := 7, cells := 0, slots := 0, locals := 188 } (xsP X (wM X mThrown mWorld mImage mDraft mEarlier mRemembered mHasImage mIsLaid mOne mTwo mShare mX mY mD mEventX mEventY mEventD mEvents mCrossingOf mBundle mEventOf mDegree mFrom mTo mCrossings mEdges mMet mUpper mLower mTape mTaped mPoint mEnd mBegin mFaultAt mFive mTold mActs mFar mViews mHullX mHullY mEndX mEndY mHeightUp mHeightLow mMeets mMeetsOf Rw) [.ref (xsA X 100), .int a0, .int a1]) (xsQi X out.1 (wM X out.2.1 mWorld mImage mDraft mEarlier mRemembered mHasImage out.2.2.1 out.2.2.2.1 out.2.2.2.2.1 out.2.2.2.2.2.1 out.2.2.2.2.2.2.1 out.2.2.2.2.2.2.2.1 out.2.2.2.2.2.2.2.2.1 out.2.2.2.2.2.2.2.2.2.1 out.2.2.2.2.2.2.2.2.2.2.1 out.2.2.2.2.2.2.2.2.2.2.2.1 out.2.2.2.2.2.2.2.2.2.2.2.2.1 out.2.2.2.2.2.2.2.2.2.2.2.2.2.1 out.2.2.2.2.2.2.2.2.2.2.2.2.2.2.1 out.2.2.2.2.2.2.2.2.2.2.2.2.2.2.2.1 out.2.2.2.2.2.2.2.2.2.2.2.2.2.2.2.2.1 out.2.2.2.2.2.2.2.2.2.2.2.2.2.2.2.2.2.1 out.2.2.2.2.2.2.2.2.2.2.2.2.2.2.2.2.2.2.1 out.2.2.2.2.2.2.2.2.2.2.2.2.2.2.2.2.2.2.2.1 out.2.2.2.2.2.2.2.2.2.2.2.2.2.2.2.2.2.2.2.2 mMet mUpper mLower mTape mTaped mPoint mEnd mBegin mFaultAt mFive mTold mActs mFar mViews mHullX mHullY mEndX mEndY mHeightUp mHeightLow mMeets mMeetsOf Rw)) 0 0 (xsF X) := by
  refine xs_meth RX11 (by decide) rfl (Nat.le_of_ble_eq_true rfl) ?_
  intro p e s m below meth c ls H locs C hP hD hS hr hlk hl
  have hx := C.1
  have hb := C.2.1
  have hl : lv_has ls 3 [(0, .ref (xsA X 100)), (1, .int a0), (2, .int a1)] := hl
  obtain ⟨Qq, hQq⟩ : ∃ Qq, Qq = xsQi X out.1 (wM X out.2.1 mWorld mImage mDraft mEarlier mRemembered mHasImage out.2.2.1 out.2.2.2.1 out.2.2.2.2.1 out.2.2.2.2.2.1 out.2.2.2.2.2.2.1 out.2.2.2.2.2.2.2.1 out.2.2.2.2.2.2.2.2.1 out.2.2.2.2.2.2.2.2.2.1 out.2.2.2.2.2.2.2.2.2.2.1 out.2.2.2.2.2.2.2.2.2.2.2.1 out.2.2.2.2.2.2.2.2.2.2.2.2.1 out.2.2.2.2.2.2.2.2.2.2.2.2.2.1 out.2.2.2.2.2.2.2.2.2.2.2.2.2.2.1 out.2.2.2.2.2.2.2.2.2.2.2.2.2.2.2.1 out.2.2.2.2.2.2.2.2.2.2.2.2.2.2.2.2.1 out.2.2.2.2.2.2.2.2.2.2.2.2.2.2.2.2.2.1 out.2.2.2.2.2.2.2.2.2.2.2.2.2.2.2.2.2.2.1 out.2.2.2.2.2.2.2.2.2.2.2.2.2.2.2.2.2.2.2.1 out.2.2.2.2.2.2.2.2.2.2.2.2.2.2.2.2.2.2.2.2 mMet mUpper mLower mTape mTaped mPoint mEnd mBegin mFaultAt mFive mTold mActs mFar mViews mHullX mHullY mEndX mEndY mHeightUp mHeightLow mMeets mMeetsOf Rw) := ⟨_, rfl⟩
  rw [← hQq]
  unfold fX11_segment at hf
  refine lv_aload_n hx hb dX11_segment_0 rfl (lv_at hl 0 rfl) ?_
  refine lv_iload_n hx hb dX11_segment_1 rfl (lv_at hl 1 rfl) ?_
  replace hf := xsBd_use hf
  obtain ⟨o1, h2, hf⟩ := hf
  refine xs_calli hS (xs_runV (As := [.int a0]) C (mX11_noSegment l  h2) w_1638 w_1640 w_54 w_115 w_1641 hd_X11_noSegment ⟨rfl, rfl, Nat.le_of_ble_eq_true rfl, Nat.le_of_ble_eq_true rfl, Nat.zero_le _, Nat.zero_le _⟩ hP hD hS lk_X11 rfl hl.1 rfl (Nat.le_of_ble_eq_true rfl) dX11_segment_2) (fun H locs hP hD hS => ?_)
  refine lv_if_ne (tgt := 33) hx hb dX11_segment_5 (by decide) (fun c24 => ?_) (fun c24 => ?_)
  · replace hf := xsBr_f c24 hf
    refine lv_iconst (v := (0 : Int32)) hx hb dX11_segment_33 (by decide) ?_
    have ho := Option.some.inj hf
    subst ho
    rw [hQq]
    exact xs_iret C hr hlk hP hD hS dX11_segment_34
  · replace hf := xsBr_t c24 hf
    refine lv_aload_n hx hb dX11_segment_8 rfl (lv_at hl 0 rfl) ?_
    refine lv_iload_n hx hb dX11_segment_9 rfl (lv_at hl 2 rfl) ?_
    refine lv_i2l hx hb dX11_segment_10 rfl ?_
    refine lv_lconst (v := (0 : Int64)) hx hb dX11_segment_11 (by decide) ?_
    refine lv_ldc2 (v := (8 : Int64)) hx hb C.2.2.2.1 (xs_kts C _ w_1723) dX11_segment_12 ?_
    replace hf := xsBd_use hf
    obtain ⟨o3, h4, hf⟩ := hf
    refine xs_calli hS (xs_runS (As := [.long a1.toInt64, .long (0 : Int64), .long (8 : Int64)]) C (mX11_in l  h4) w_1573 w_1574 w_115 w_1575 hd_X11_in ⟨rfl, rfl, Nat.le_of_ble_eq_true rfl, Nat.le_of_ble_eq_true rfl, Nat.zero_le _, Nat.zero_le _⟩ hP hD hS hl.1 rfl (Nat.le_of_ble_eq_true rfl) dX11_segment_15) (fun H locs hP hD hS => ?_)
    have K22 : ∀ (y5 : Int32) (hf : fX11_segment_J26 mWorld mIsLaid mOne mTwo mShare mX mY mD mEventX mEventY mEventD mEvents mCrossingOf mBundle mEventOf mDegree mFrom mTo mCrossings mEdges a0 a1 o1 y5 = some out) (H : Heap) (locs : List Loc) (ls : Array Slot), va_P (xsD X) vwCl (wM X o1.2 mWorld mImage mDraft mEarlier mRemembered mHasImage mIsLaid mOne mTwo mShare mX mY mD mEventX mEventY mEventD mEvents mCrossingOf mBundle mEventOf mDegree mFrom mTo mCrossings mEdges mMet mUpper mLower mTape mTaped mPoint mEnd mBegin mFaultAt mFive mTold mActs mFar mViews mHullX mHullY mEndX mEndY mHeightUp mHeightLow mMeets mMeetsOf Rw) H → va_D (xsF X) (wM X o1.2 mWorld mImage mDraft mEarlier mRemembered mHasImage mIsLaid mOne mTwo mShare mX mY mD mEventX mEventY mEventD mEvents mCrossingOf mBundle mEventOf mDegree mFrom mTo mCrossings mEdges mMet mUpper mLower mTape mTaped mPoint mEnd mBegin mFaultAt mFive mTold mActs mFar mViews mHullX mHullY mEndX mEndY mHeightUp mHeightLow mMeets mMeetsOf Rw) → va_S (xsF X) s.heap H locs → lv_has ls 3 [(0, .ref (xsA X 100)), (1, .int a0), (2, .int a1)] → W p l e { frames := 7, cells := 0, slots := 0, locals := 188 } s m ([.ref (xsA X 100), .int a0, .int a1] : List Value).toArray below meth c H locs 0 0 (MQ below Qq ([.ref (xsA X 100), .int a0, .int a1] : List Value).toArray s 0 0 (xsF X)) (F0 m 26 ls [.int y5, .ref (xsA X 100)]) := by
      intro y5 hf H locs ls hP hD hS hl
      unfold fX11_segment_J26 at hf
      refine lv_iconst (v := (2 : Int32)) hx hb dX11_segment_26 (by decide) ?_
      replace hf := xsBd_use hf
      obtain ⟨o6, h7, hf⟩ := hf
      refine xs_calli hS (xs_runV (As := [.int y5, .int (2 : Int32)]) C (mX11_throwsIf l  h7) w_1502 w_1504 w_33 w_115 w_1505 hd_X11_throwsIf ⟨rfl, rfl, Nat.le_of_ble_eq_true rfl, Nat.le_of_ble_eq_true rfl, Nat.zero_le _, Nat.zero_le _⟩ hP hD hS lk_X11 rfl hl.1 rfl (Nat.le_of_ble_eq_true rfl) dX11_segment_27) (fun H locs hP hD hS => ?_)
      refine lv_if_eq (tgt := 35) hx hb dX11_segment_30 (by decide) (fun c19 => ?_) (fun c19 => ?_)
      · replace hf := xsBr_t c19 hf
        refine lv_iload_n hx hb dX11_segment_35 rfl (lv_at hl 2 rfl) ?_
        by_cases c18_0 : a1 = 5
        · replace hf := xsBr_t c18_0 hf
          refine lv_tableIn (tgt := 68) hx hb dX11_segment_36 (by rw [c18_0]; decide) (by rw [c18_0]; decide) (by rw [c18_0]; rfl) (by decide) ?_
          refine lv_aload_n hx hb dX11_segment_68 rfl (lv_at hl 0 rfl) ?_
          refine lv_iload_n hx hb dX11_segment_69 rfl (lv_at hl 1 rfl) ?_
          replace hf := xsBd_use hf
          obtain ⟨o8, h9, hf⟩ := hf
          refine xs_calli hS (xs_runV (As := [.int a0]) C (mX11_kindOf l  h9) w_1724 w_1726 w_66 w_115 w_1727 hd_X11_kindOf ⟨rfl, rfl, Nat.le_of_ble_eq_true rfl, Nat.le_of_ble_eq_true rfl, Nat.zero_le _, Nat.zero_le _⟩ hP hD hS lk_X11 rfl hl.1 rfl (Nat.le_of_ble_eq_true rfl) dX11_segment_70) (fun H locs hP hD hS => ?_)
          have ho := Option.some.inj hf
          subst ho
          rw [hQq]
          exact xs_iret C hr hlk hP hD hS dX11_segment_73
        replace hf := xsBr_f c18_0 hf
        by_cases c18_1 : a1 = 6
        · replace hf := xsBr_t c18_1 hf
          refine lv_tableIn (tgt := 74) hx hb dX11_segment_36 (by rw [c18_1]; decide) (by rw [c18_1]; decide) (by rw [c18_1]; rfl) (by decide) ?_
          refine lv_aload_n hx hb dX11_segment_74 rfl (lv_at hl 0 rfl) ?_
          refine lv_iload_n hx hb dX11_segment_75 rfl (lv_at hl 1 rfl) ?_
          refine lv_iconst (v := (1 : Int32)) hx hb dX11_segment_76 (by decide) ?_
          replace hf := xsBd_use hf
          obtain ⟨o10, h11, hf⟩ := hf
          refine xs_calli hS (xs_runV (As := [.int a0, .int (1 : Int32)]) C (mX11_eventsOn l  h11) w_1732 w_1734 w_68 w_115 w_1735 hd_X11_eventsOn ⟨rfl, rfl, Nat.le_of_ble_eq_true rfl, Nat.le_of_ble_eq_true rfl, Nat.zero_le _, Nat.zero_le _⟩ hP hD hS lk_X11 rfl hl.1 rfl (Nat.le_of_ble_eq_true rfl) dX11_segment_77) (fun H locs hP hD hS => ?_)
          have ho := Option.some.inj hf
          subst ho
          rw [hQq]
          exact xs_iret C hr hlk hP hD hS dX11_segment_80
        replace hf := xsBr_f c18_1 hf
        by_cases c18_2 : a1 = 7
        · replace hf := xsBr_t c18_2 hf
          refine lv_tableIn (tgt := 81) hx hb dX11_segment_36 (by rw [c18_2]; decide) (by rw [c18_2]; decide) (by rw [c18_2]; rfl) (by decide) ?_
          refine lv_aload_n hx hb dX11_segment_81 rfl (lv_at hl 0 rfl) ?_
          refine lv_iload_n hx hb dX11_segment_82 rfl (lv_at hl 1 rfl) ?_
          refine lv_iconst (v := (0 : Int32)) hx hb dX11_segment_83 (by decide) ?_
          replace hf := xsBd_use hf
          obtain ⟨o12, h13, hf⟩ := hf
          refine xs_calli hS (xs_runV (As := [.int a0, .int (0 : Int32)]) C (mX11_eventsOn l  h13) w_1732 w_1734 w_68 w_115 w_1735 hd_X11_eventsOn ⟨rfl, rfl, Nat.le_of_ble_eq_true rfl, Nat.le_of_ble_eq_true rfl, Nat.zero_le _, Nat.zero_le _⟩ hP hD hS lk_X11 rfl hl.1 rfl (Nat.le_of_ble_eq_true rfl) dX11_segment_84) (fun H locs hP hD hS => ?_)
          refine lv_iconst (v := (1 : Int32)) hx hb dX11_segment_87 (by decide) ?_
          refine lv_isub hx hb dX11_segment_88 ?_
          have ho := Option.some.inj hf
          subst ho
          rw [hQq]
          exact xs_iret C hr hlk hP hD hS dX11_segment_89
        replace hf := xsBr_f c18_2 hf
        by_cases c18_3 : a1 = 8
        · replace hf := xsBr_t c18_3 hf
          refine lv_tableIn (tgt := 90) hx hb dX11_segment_36 (by rw [c18_3]; decide) (by rw [c18_3]; decide) (by rw [c18_3]; rfl) (by decide) ?_
          refine lv_aload_n hx hb dX11_segment_90 rfl (lv_at hl 0 rfl) ?_
          refine lv_iload_n hx hb dX11_segment_91 rfl (lv_at hl 1 rfl) ?_
          replace hf := xsBd_use hf
          obtain ⟨o14, h15, hf⟩ := hf
          refine xs_calli hS (xs_runV (As := [.int a0]) C (mX11_partOf l  h15) w_1736 w_1738 w_69 w_115 w_1739 hd_X11_partOf ⟨rfl, rfl, Nat.le_of_ble_eq_true rfl, Nat.le_of_ble_eq_true rfl, Nat.zero_le _, Nat.zero_le _⟩ hP hD hS lk_X11 rfl hl.1 rfl (Nat.le_of_ble_eq_true rfl) dX11_segment_92) (fun H locs hP hD hS => ?_)
          have ho := Option.some.inj hf
          subst ho
          rw [hQq]
          exact xs_iret C hr hlk hP hD hS dX11_segment_95
        replace hf := xsBr_f c18_3 hf
        refine lv_tableOut (tgt := 96) hx hb dX11_segment_36 (xs_swo [5, 6, 7, 8] (by decide) ⟨c18_0, c18_1, c18_2, c18_3, trivial⟩) (by decide) ?_
        refine lv_aload_n hx hb dX11_segment_96 rfl (lv_at hl 0 rfl) ?_
        refine lv_iload_n hx hb dX11_segment_97 rfl (lv_at hl 1 rfl) ?_
        refine lv_iload_n hx hb dX11_segment_98 rfl (lv_at hl 2 rfl) ?_
        replace hf := xsBd_use hf
        obtain ⟨o16, h17, hf⟩ := hf
        refine xs_calli hS (xs_runV (As := [.int a0, .int a1]) C (mX11_of l  h17) w_1608 w_1610 w_50 w_115 w_1611 hd_X11_of ⟨rfl, rfl, Nat.le_of_ble_eq_true rfl, Nat.le_of_ble_eq_true rfl, Nat.zero_le _, Nat.zero_le _⟩ hP hD hS lk_X11 rfl hl.1 rfl (Nat.le_of_ble_eq_true rfl) dX11_segment_99) (fun H locs hP hD hS => ?_)
        have ho := Option.some.inj hf
        subst ho
        rw [hQq]
        exact xs_iret C hr hlk hP hD hS dX11_segment_102
      · replace hf := xsBr_f c19 hf
        refine lv_iconst (v := (0 : Int32)) hx hb dX11_segment_33 (by decide) ?_
        have ho := Option.some.inj hf
        subst ho
        rw [hQq]
        exact xs_iret C hr hlk hP hD hS dX11_segment_34
    replace hf := xsBd_use hf
    obtain ⟨v20, hf, hk21⟩ := hf
    refine lv_if_ne (tgt := 25) hx hb dX11_segment_18 (by decide) (fun c23 => ?_) (fun c23 => ?_)
    · replace hf := xsBr_f c23 hf
      refine lv_iconst (v := (0 : Int32)) hx hb dX11_segment_25 (by decide) ?_
      have ev := Option.some.inj hf
      subst ev
      exact K22 (0 : Int32) hk21 H locs ls hP hD hS (lv_sub hl [0, 1, 2] rfl)
    · replace hf := xsBr_t c23 hf
      refine lv_iconst (v := (1 : Int32)) hx hb dX11_segment_21 (by decide) ?_
      refine lv_goto (tgt := 26) hx hb dX11_segment_22 (by decide) ?_
      have ev := Option.some.inj hf
      subst ev
      exact K22 (1 : Int32) hk21 H locs ls hP hD hS (lv_sub hl [0, 1, 2] rfl)
set_option maxRecDepth 100000 in
set_option maxHeartbeats 8000000 in
theorem mX11_noTwo (l : Launch) {X : xsX} {mThrown mRemembered mHasImage mIsLaid mEvents mCrossings mEdges mTaped mPoint mEnd mBegin mFaultAt mActs : Int32} {mWorld mImage mDraft mEarlier mOne mTwo mShare mCrossingOf mBundle mEventOf mDegree mFrom mTo mMet mTape mFive mTold mFar mViews mHullX mHullY mEndX mEndY mMeets mMeetsOf : Nat → Int32} {mX mY mD mHeightUp mHeightLow : Int64} {mEventX mEventY mEventD mUpper mLower : Nat → Int64} {Rw : va_W} {a0 : Int32} {a1 : Int32} {out : Int32 × Int32} (hf : fX11_noTwo mThrown mWorld a0 a1 = some out) : Met l yX11_noTwo (xsWs yX11_noTwo cX11_noTwo 3 (some .boolean)) { frames := 2, cells := 0, slots := 0, locals := 46 } (xsP X (wM X mThrown mWorld mImage mDraft mEarlier mRemembered mHasImage mIsLaid mOne mTwo mShare mX mY mD mEventX mEventY mEventD mEvents mCrossingOf mBundle mEventOf mDegree mFrom mTo mCrossings mEdges mMet mUpper mLower mTape mTaped mPoint mEnd mBegin mFaultAt mFive mTold mActs mFar mViews mHullX mHullY mEndX mEndY mHeightUp mHeightLow mMeets mMeetsOf Rw) [.ref (xsA X 100), .int a0, .int a1]) (xsQi X out.1 (wM X out.2 mWorld mImage mDraft mEarlier mRemembered mHasImage mIsLaid mOne mTwo mShare mX mY mD mEventX mEventY mEventD mEvents mCrossingOf mBundle mEventOf mDegree mFrom mTo mCrossings mEdges mMet mUpper mLower mTape mTaped mPoint mEnd mBegin mFaultAt mFive mTold mActs mFar mViews mHullX mHullY mEndX mEndY mHeightUp mHeightLow mMeets mMeetsOf Rw)) 0 0 (xsF X) := by
  refine xs_meth RX11 (by decide) rfl (Nat.le_of_ble_eq_true rfl) ?_
  intro p e s m below meth c ls H locs C hP hD hS hr hlk hl
  have hx := C.1
  have hb := C.2.1
  have hl : lv_has ls 3 [(0, .ref (xsA X 100)), (1, .int a0), (2, .int a1)] := hl
  obtain ⟨Qq, hQq⟩ : ∃ Qq, Qq = xsQi X out.1 (wM X out.2 mWorld mImage mDraft mEarlier mRemembered mHasImage mIsLaid mOne mTwo mShare mX mY mD mEventX mEventY mEventD mEvents mCrossingOf mBundle mEventOf mDegree mFrom mTo mCrossings mEdges mMet mUpper mLower mTape mTaped mPoint mEnd mBegin mFaultAt mFive mTold mActs mFar mViews mHullX mHullY mEndX mEndY mHeightUp mHeightLow mMeets mMeetsOf Rw) := ⟨_, rfl⟩
  rw [← hQq]
  unfold fX11_noTwo at hf
  refine lv_aload_n hx hb dX11_noTwo_0 rfl (lv_at hl 0 rfl) ?_
  refine lv_iload_n hx hb dX11_noTwo_1 rfl (lv_at hl 1 rfl) ?_
  replace hf := xsBd_use hf
  obtain ⟨o1, h2, hf⟩ := hf
  refine xs_calli hS (xs_runV (As := [.int a0]) C (mX11_noSegment l  h2) w_1638 w_1640 w_54 w_115 w_1641 hd_X11_noSegment ⟨rfl, rfl, Nat.le_of_ble_eq_true rfl, Nat.le_of_ble_eq_true rfl, Nat.zero_le _, Nat.zero_le _⟩ hP hD hS lk_X11 rfl hl.1 rfl (Nat.le_of_ble_eq_true rfl) dX11_noTwo_2) (fun H locs hP hD hS => ?_)
  refine lv_if_ne (tgt := 16) hx hb dX11_noTwo_5 (by decide) (fun c6 => ?_) (fun c6 => ?_)
  · replace hf := xsBr_f c6 hf
    refine lv_iconst (v := (1 : Int32)) hx hb dX11_noTwo_16 (by decide) ?_
    refine lv_goto (tgt := 21) hx hb dX11_noTwo_17 (by decide) ?_
    have ho := Option.some.inj hf
    subst ho
    rw [hQq]
    exact xs_zret C hr hlk xsB_1 hP hD hS dX11_noTwo_21
  · replace hf := xsBr_t c6 hf
    refine lv_aload_n hx hb dX11_noTwo_8 rfl (lv_at hl 0 rfl) ?_
    refine lv_iload_n hx hb dX11_noTwo_9 rfl (lv_at hl 2 rfl) ?_
    replace hf := xsBd_use hf
    obtain ⟨o3, h4, hf⟩ := hf
    refine xs_calli hS (xs_runV (As := [.int a1]) C (mX11_noSegment l  h4) w_1638 w_1640 w_54 w_115 w_1641 hd_X11_noSegment ⟨rfl, rfl, Nat.le_of_ble_eq_true rfl, Nat.le_of_ble_eq_true rfl, Nat.zero_le _, Nat.zero_le _⟩ hP hD hS lk_X11 rfl hl.1 rfl (Nat.le_of_ble_eq_true rfl) dX11_noTwo_10) (fun H locs hP hD hS => ?_)
    refine lv_if_eq (tgt := 20) hx hb dX11_noTwo_13 (by decide) (fun c5 => ?_) (fun c5 => ?_)
    · replace hf := xsBr_t c5 hf
      refine lv_iconst (v := (0 : Int32)) hx hb dX11_noTwo_20 (by decide) ?_
      have ho := Option.some.inj hf
      subst ho
      rw [hQq]
      exact xs_zret C hr hlk xsB_0 hP hD hS dX11_noTwo_21
    · replace hf := xsBr_f c5 hf
      refine lv_iconst (v := (1 : Int32)) hx hb dX11_noTwo_16 (by decide) ?_
      refine lv_goto (tgt := 21) hx hb dX11_noTwo_17 (by decide) ?_
      have ho := Option.some.inj hf
      subst ho
      rw [hQq]
      exact xs_zret C hr hlk xsB_1 hP hD hS dX11_noTwo_21
set_option maxRecDepth 100000 in
set_option maxHeartbeats 8000000 in
theorem mX11_how (l : Launch) {X : xsX} {mThrown mRemembered mHasImage mIsLaid mEvents mCrossings mEdges mTaped mPoint mEnd mBegin mFaultAt mActs : Int32} {mWorld mImage mDraft mEarlier mOne mTwo mShare mCrossingOf mBundle mEventOf mDegree mFrom mTo mMet mTape mFive mTold mFar mViews mHullX mHullY mEndX mEndY mMeets mMeetsOf : Nat → Int32} {mX mY mD mHeightUp mHeightLow : Int64} {mEventX mEventY mEventD mUpper mLower : Nat → Int64} {Rw : va_W} {a0 : Int32} {a1 : Int32} {out : Int32 × Int32 × (Nat → Int32) × (Nat → Int32) × (Nat → Int32) × Int64 × Int64 × Int64} (hf : fX11_how mThrown mWorld mOne mTwo mShare mX mY mD a0 a1 = some out) : Met l yX11_how (xsWs yX11_how cX11_how 3 (some .int)) { frames := 6, cells := 0, slots := 0, locals := 165 } (xsP X (wM X mThrown mWorld mImage mDraft mEarlier mRemembered mHasImage mIsLaid mOne mTwo mShare mX mY mD mEventX mEventY mEventD mEvents mCrossingOf mBundle mEventOf mDegree mFrom mTo mCrossings mEdges mMet mUpper mLower mTape mTaped mPoint mEnd mBegin mFaultAt mFive mTold mActs mFar mViews mHullX mHullY mEndX mEndY mHeightUp mHeightLow mMeets mMeetsOf Rw) [.ref (xsA X 100), .int a0, .int a1]) (xsQi X out.1 (wM X out.2.1 mWorld mImage mDraft mEarlier mRemembered mHasImage mIsLaid out.2.2.1 out.2.2.2.1 out.2.2.2.2.1 out.2.2.2.2.2.1 out.2.2.2.2.2.2.1 out.2.2.2.2.2.2.2 mEventX mEventY mEventD mEvents mCrossingOf mBundle mEventOf mDegree mFrom mTo mCrossings mEdges mMet mUpper mLower mTape mTaped mPoint mEnd mBegin mFaultAt mFive mTold mActs mFar mViews mHullX mHullY mEndX mEndY mHeightUp mHeightLow mMeets mMeetsOf Rw)) 0 0 (xsF X) := by
  refine xs_meth RX11 (by decide) rfl (Nat.le_of_ble_eq_true rfl) ?_
  intro p e s m below meth c ls H locs C hP hD hS hr hlk hl
  have hx := C.1
  have hb := C.2.1
  have hl : lv_has ls 3 [(0, .ref (xsA X 100)), (1, .int a0), (2, .int a1)] := hl
  obtain ⟨Qq, hQq⟩ : ∃ Qq, Qq = xsQi X out.1 (wM X out.2.1 mWorld mImage mDraft mEarlier mRemembered mHasImage mIsLaid out.2.2.1 out.2.2.2.1 out.2.2.2.2.1 out.2.2.2.2.2.1 out.2.2.2.2.2.2.1 out.2.2.2.2.2.2.2 mEventX mEventY mEventD mEvents mCrossingOf mBundle mEventOf mDegree mFrom mTo mCrossings mEdges mMet mUpper mLower mTape mTaped mPoint mEnd mBegin mFaultAt mFive mTold mActs mFar mViews mHullX mHullY mEndX mEndY mHeightUp mHeightLow mMeets mMeetsOf Rw) := ⟨_, rfl⟩
  rw [← hQq]
  unfold fX11_how at hf
  refine lv_aload_n hx hb dX11_how_0 rfl (lv_at hl 0 rfl) ?_
  refine lv_iload_n hx hb dX11_how_1 rfl (lv_at hl 1 rfl) ?_
  refine lv_iload_n hx hb dX11_how_2 rfl (lv_at hl 2 rfl) ?_
  replace hf := xsBd_use hf
  obtain ⟨o1, h2, hf⟩ := hf
  refine xs_calli hS (xs_runV (As := [.int a0, .int a1]) C (mX11_noTwo l  h2) w_1748 w_1750 w_71 w_115 w_1751 hd_X11_noTwo ⟨rfl, rfl, Nat.le_of_ble_eq_true rfl, Nat.le_of_ble_eq_true rfl, Nat.zero_le _, Nat.zero_le _⟩ hP hD hS lk_X11 rfl hl.1 rfl (Nat.le_of_ble_eq_true rfl) dX11_how_3) (fun H locs hP hD hS => ?_)
  refine lv_if_ne (tgt := 27) hx hb dX11_how_6 (by decide) (fun c13 => ?_) (fun c13 => ?_)
  · replace hf := xsBr_f c13 hf
    refine lv_iconst (v := (0 : Int32)) hx hb dX11_how_27 (by decide) ?_
    refine lv_goto (tgt := 37) hx hb dX11_how_28 (by decide) ?_
    have ho := Option.some.inj hf
    subst ho
    rw [hQq]
    exact xs_iret C hr hlk hP hD hS dX11_how_37
  · replace hf := xsBr_t c13 hf
    refine lv_aload_n hx hb dX11_how_9 rfl (lv_at hl 0 rfl) ?_
    refine lv_iload_n hx hb dX11_how_10 rfl (lv_at hl 1 rfl) ?_
    refine lv_iload_n hx hb dX11_how_11 rfl (lv_at hl 2 rfl) ?_
    have K11 : ∀ (y3 : Int32) (hf : fX11_how_J20 mWorld mOne mTwo mShare mX mY mD a0 a1 o1 y3 = some out) (H : Heap) (locs : List Loc) (ls : Array Slot), va_P (xsD X) vwCl (wM X o1.2 mWorld mImage mDraft mEarlier mRemembered mHasImage mIsLaid mOne mTwo mShare mX mY mD mEventX mEventY mEventD mEvents mCrossingOf mBundle mEventOf mDegree mFrom mTo mCrossings mEdges mMet mUpper mLower mTape mTaped mPoint mEnd mBegin mFaultAt mFive mTold mActs mFar mViews mHullX mHullY mEndX mEndY mHeightUp mHeightLow mMeets mMeetsOf Rw) H → va_D (xsF X) (wM X o1.2 mWorld mImage mDraft mEarlier mRemembered mHasImage mIsLaid mOne mTwo mShare mX mY mD mEventX mEventY mEventD mEvents mCrossingOf mBundle mEventOf mDegree mFrom mTo mCrossings mEdges mMet mUpper mLower mTape mTaped mPoint mEnd mBegin mFaultAt mFive mTold mActs mFar mViews mHullX mHullY mEndX mEndY mHeightUp mHeightLow mMeets mMeetsOf Rw) → va_S (xsF X) s.heap H locs → lv_has ls 3 [(0, .ref (xsA X 100)), (1, .int a0), (2, .int a1)] → W p l e { frames := 6, cells := 0, slots := 0, locals := 165 } s m ([.ref (xsA X 100), .int a0, .int a1] : List Value).toArray below meth c H locs 0 0 (MQ below Qq ([.ref (xsA X 100), .int a0, .int a1] : List Value).toArray s 0 0 (xsF X)) (F0 m 20 ls [.int y3, .ref (xsA X 100)]) := by
      intro y3 hf H locs ls hP hD hS hl
      unfold fX11_how_J20 at hf
      refine lv_iconst (v := (2 : Int32)) hx hb dX11_how_20 (by decide) ?_
      replace hf := xsBd_use hf
      obtain ⟨o4, h5, hf⟩ := hf
      refine xs_calli hS (xs_runV (As := [.int y3, .int (2 : Int32)]) C (mX11_throwsIf l  h5) w_1502 w_1504 w_33 w_115 w_1505 hd_X11_throwsIf ⟨rfl, rfl, Nat.le_of_ble_eq_true rfl, Nat.le_of_ble_eq_true rfl, Nat.zero_le _, Nat.zero_le _⟩ hP hD hS lk_X11 rfl hl.1 rfl (Nat.le_of_ble_eq_true rfl) dX11_how_21) (fun H locs hP hD hS => ?_)
      refine lv_if_eq (tgt := 31) hx hb dX11_how_24 (by decide) (fun c8 => ?_) (fun c8 => ?_)
      · replace hf := xsBr_t c8 hf
        refine lv_aload_n hx hb dX11_how_31 rfl (lv_at hl 0 rfl) ?_
        refine lv_iload_n hx hb dX11_how_32 rfl (lv_at hl 1 rfl) ?_
        refine lv_iload_n hx hb dX11_how_33 rfl (lv_at hl 2 rfl) ?_
        replace hf := xsBd_use hf
        obtain ⟨o6, h7, hf⟩ := hf
        refine xs_calli hS (xs_runV (As := [.int a0, .int a1]) C (mX11_howOf l  h7) w_1752 w_1754 w_72 w_115 w_1755 hd_X11_howOf ⟨rfl, rfl, Nat.le_of_ble_eq_true rfl, Nat.le_of_ble_eq_true rfl, Nat.zero_le _, Nat.zero_le _⟩ hP hD hS lk_X11 rfl hl.1 rfl (Nat.le_of_ble_eq_true rfl) dX11_how_34) (fun H locs hP hD hS => ?_)
        have ho := Option.some.inj hf
        subst ho
        rw [hQq]
        exact xs_iret C hr hlk hP hD hS dX11_how_37
      · replace hf := xsBr_f c8 hf
        refine lv_iconst (v := (0 : Int32)) hx hb dX11_how_27 (by decide) ?_
        refine lv_goto (tgt := 37) hx hb dX11_how_28 (by decide) ?_
        have ho := Option.some.inj hf
        subst ho
        rw [hQq]
        exact xs_iret C hr hlk hP hD hS dX11_how_37
    replace hf := xsBd_use hf
    obtain ⟨v9, hf, hk10⟩ := hf
    refine lv_icmp_ne (tgt := 19) hx hb dX11_how_12 (by decide) (fun c12 => ?_) (fun c12 => ?_)
    · replace hf := xsBr_f c12 hf
      refine lv_iconst (v := (0 : Int32)) hx hb dX11_how_19 (by decide) ?_
      have ev := Option.some.inj hf
      subst ev
      exact K11 (0 : Int32) hk10 H locs ls hP hD hS (lv_sub hl [0, 1, 2] rfl)
    · replace hf := xsBr_t c12 hf
      refine lv_iconst (v := (1 : Int32)) hx hb dX11_how_15 (by decide) ?_
      refine lv_goto (tgt := 20) hx hb dX11_how_16 (by decide) ?_
      have ev := Option.some.inj hf
      subst ev
      exact K11 (1 : Int32) hk10 H locs ls hP hD hS (lv_sub hl [0, 1, 2] rfl)
set_option maxRecDepth 100000 in
set_option maxHeartbeats 8000000 in
theorem mX11_lowest (l : Launch) {X : xsX} {w : va_W} {a0 : Int64} {a1 : Int64} {a2 : Int32} {out : Int64} (hf : fX11_lowest a0 a1 a2 = some out) : Met l yX11_lowest (xsWs yX11_lowest cX11_lowest 7 (some .long)) { frames := 1, cells := 0, slots := 0, locals := 29 } (xsP X (w) [.long a0, .long a1, .int a2]) (xsQl X out (w)) 0 0 (xsF X) := by
  refine xs_meth RX11 (by decide) rfl (Nat.le_of_ble_eq_true rfl) ?_
  intro p e s m below meth c ls H locs C hP hD hS hr hlk hl
  have hx := C.1
  have hb := C.2.1
  have hl : lv_has ls 7 [(0, .long a0), (2, .long a1), (4, .int a2)] := hl
  obtain ⟨Qq, hQq⟩ : ∃ Qq, Qq = xsQl X out (w) := ⟨_, rfl⟩
  rw [← hQq]
  unfold fX11_lowest at hf
  refine lv_lload_n hx hb dX11_lowest_0 rfl (lv_at hl 0 rfl) ?_
  refine lv_lconst (v := (0 : Int64)) hx hb dX11_lowest_1 (by decide) ?_
  have K12 : ∀ (y1 : Int64) (hf : fX11_lowest_J12 a0 a1 a2 y1 = some out) (H : Heap) (locs : List Loc) (ls : Array Slot), va_P (xsD X) vwCl (w) H → va_D (xsF X) (w) → va_S (xsF X) s.heap H locs → lv_has ls 7 [(0, .long a0), (2, .long a1), (4, .int a2)] → W p l e { frames := 1, cells := 0, slots := 0, locals := 29 } s m ([.long a0, .long a1, .int a2] : List Value).toArray below meth c H locs 0 0 (MQ below Qq ([.long a0, .long a1, .int a2] : List Value).toArray s 0 0 (xsF X)) (F0 m 12 ls [.long y1]) := by
    intro y1 hf H locs ls hP hD hS hl
    unfold fX11_lowest_J12 at hf
    refine lv_lload_n hx hb dX11_lowest_12 rfl (lv_at hl 1 rfl) ?_
    replace hf := xsBd_use hf
    obtain ⟨o2, h3, hf⟩ := hf
    refine xs_calll hS (xs_runS (As := [.long y1, .long a1]) C (mX11_common l  h3) w_1681 w_1682 w_115 w_1683 hd_X11_common ⟨rfl, rfl, Nat.le_of_ble_eq_true rfl, Nat.le_of_ble_eq_true rfl, Nat.zero_le _, Nat.zero_le _⟩ hP hD hS hl.1 rfl (Nat.le_of_ble_eq_true rfl) dX11_lowest_13) (fun H locs hP hD hS => ?_)
    refine lv_lstore (lv' := [(5, .long o2), (0, .long a0), (2, .long a1), (4, .int a2)]) hx hb dX11_lowest_16 hl (by decide) rfl (fun ls hl => ?_)
    refine lv_iload hx hb dX11_lowest_18 (lv_at hl 3 rfl) ?_
    have K8 : ∀ (y4 : Int64) (hf : fX11_lowest_J28 o2 y4 = some out) (H : Heap) (locs : List Loc) (ls : Array Slot), va_P (xsD X) vwCl (w) H → va_D (xsF X) (w) → va_S (xsF X) s.heap H locs → lv_has ls 7 [(5, .long o2)] → W p l e { frames := 1, cells := 0, slots := 0, locals := 29 } s m ([.long a0, .long a1, .int a2] : List Value).toArray below meth c H locs 0 0 (MQ below Qq ([.long a0, .long a1, .int a2] : List Value).toArray s 0 0 (xsF X)) (F0 m 28 ls [.long y4]) := by
      intro y4 hf H locs ls hP hD hS hl
      unfold fX11_lowest_J28 at hf
      refine lv_lload hx hb dX11_lowest_28 (lv_at hl 0 rfl) ?_
      replace hf := xsCk_use hf
      obtain ⟨h5, hf⟩ := hf
      refine lv_ldiv hx hb dX11_lowest_30 h5 ?_
      have ho := Option.some.inj hf
      subst ho
      rw [hQq]
      exact xs_lret C hr hlk hP hD hS dX11_lowest_31
    replace hf := xsBd_use hf
    obtain ⟨v6, hf, hk7⟩ := hf
    refine lv_if_eq (tgt := 27) hx hb dX11_lowest_20 (by decide) (fun c9 => ?_) (fun c9 => ?_)
    · replace hf := xsBr_t c9 hf
      refine lv_lload_n hx hb dX11_lowest_27 rfl (lv_at hl 1 rfl) ?_
      have ev := Option.some.inj hf
      subst ev
      exact K8 a0 hk7 H locs ls hP hD hS (lv_sub hl [0] rfl)
    · replace hf := xsBr_f c9 hf
      refine lv_lload_n hx hb dX11_lowest_23 rfl (lv_at hl 2 rfl) ?_
      refine lv_goto (tgt := 28) hx hb dX11_lowest_24 (by decide) ?_
      have ev := Option.some.inj hf
      subst ev
      exact K8 a1 hk7 H locs ls hP hD hS (lv_sub hl [0] rfl)
  replace hf := xsBd_use hf
  obtain ⟨v10, hf, hk11⟩ := hf
  refine xs_lcmp_ge (tgt := 11) C dX11_lowest_2 dX11_lowest_3 (by decide) (fun c13 => ?_) (fun c13 => ?_)
  · replace hf := xsBr_t c13 hf
    refine lv_lload_n hx hb dX11_lowest_11 rfl (lv_at hl 0 rfl) ?_
    have ev := Option.some.inj hf
    subst ev
    exact K12 a0 hk11 H locs ls hP hD hS (lv_sub hl [0, 1, 2] rfl)
  · replace hf := xsBr_f c13 hf
    refine lv_lload_n hx hb dX11_lowest_6 rfl (lv_at hl 0 rfl) ?_
    refine lv_lneg hx hb dX11_lowest_7 ?_
    refine lv_goto (tgt := 12) hx hb dX11_lowest_8 (by decide) ?_
    have ev := Option.some.inj hf
    subst ev
    exact K12 (-a0) hk11 H locs ls hP hD hS (lv_sub hl [0, 1, 2] rfl)
set_option maxRecDepth 100000 in
set_option maxHeartbeats 8000000 in
theorem mX11_partOfPoint (l : Launch) {X : xsX} {w : va_W} {a0 : Int64} {a1 : Int64} {a2 : Int64} {a3 : Int32} {out : Int64} (hf : fX11_partOfPoint a0 a1 a2 a3 = some out) : Met l yX11_partOfPoint (xsWs yX11_partOfPoint cX11_partOfPoint 7 (some .long)) { frames := 2, cells := 0, slots := 0, locals := 55 } (xsP X (w) [.long a0, .long a1, .long a2, .int a3]) (xsQl X out (w)) 0 0 (xsF X) := by
  refine xs_meth RX11 (by decide) rfl (Nat.le_of_ble_eq_true rfl) ?_
  intro p e s m below meth c ls H locs C hP hD hS hr hlk hl
  have hx := C.1
  have hb := C.2.1
  have hl : lv_has ls 7 [(0, .long a0), (2, .long a1), (4, .long a2), (6, .int a3)] := hl
  obtain ⟨Qq, hQq⟩ : ∃ Qq, Qq = xsQl X out (w) := ⟨_, rfl⟩
  rw [← hQq]
  unfold fX11_partOfPoint at hf
  refine lv_iload hx hb dX11_partOfPoint_0 (lv_at hl 3 rfl) ?_
  refine lv_iconst (v := (2 : Int32)) hx hb dX11_partOfPoint_2 (by decide) ?_
  have K12 : ∀ (y1 : Int64) (hf : fX11_partOfPoint_J11 a2 a3 y1 = some out) (H : Heap) (locs : List Loc) (ls : Array Slot), va_P (xsD X) vwCl (w) H → va_D (xsF X) (w) → va_S (xsF X) s.heap H locs → lv_has ls 7 [(4, .long a2), (6, .int a3)] → W p l e { frames := 2, cells := 0, slots := 0, locals := 55 } s m ([.long a0, .long a1, .long a2, .int a3] : List Value).toArray below meth c H locs 0 0 (MQ below Qq ([.long a0, .long a1, .long a2, .int a3] : List Value).toArray s 0 0 (xsF X)) (F0 m 11 ls [.long y1]) := by
    intro y1 hf H locs ls hP hD hS hl
    unfold fX11_partOfPoint_J11 at hf
    refine lv_lload hx hb dX11_partOfPoint_11 (lv_at hl 0 rfl) ?_
    refine lv_iload hx hb dX11_partOfPoint_13 (lv_at hl 1 rfl) ?_
    refine lv_iconst (v := (2 : Int32)) hx hb dX11_partOfPoint_15 (by decide) ?_
    replace hf := xsCk_use hf
    obtain ⟨h2, hf⟩ := hf
    refine lv_irem hx hb dX11_partOfPoint_16 h2 ?_
    refine lv_iconst (v := (1 : Int32)) hx hb dX11_partOfPoint_17 (by decide) ?_
    have K8 : ∀ (y3 : Int32) (hf : fX11_partOfPoint_J26 a2 y1 y3 = some out) (H : Heap) (locs : List Loc) (ls : Array Slot), va_P (xsD X) vwCl (w) H → va_D (xsF X) (w) → va_S (xsF X) s.heap H locs → lv_has ls 7 [] → W p l e { frames := 2, cells := 0, slots := 0, locals := 55 } s m ([.long a0, .long a1, .long a2, .int a3] : List Value).toArray below meth c H locs 0 0 (MQ below Qq ([.long a0, .long a1, .long a2, .int a3] : List Value).toArray s 0 0 (xsF X)) (F0 m 26 ls [.int y3, .long a2, .long y1]) := by
      intro y3 hf H locs ls hP hD hS hl
      unfold fX11_partOfPoint_J26 at hf
      replace hf := xsBd_use hf
      obtain ⟨o4, h5, hf⟩ := hf
      refine xs_calll hS (xs_runS (As := [.long y1, .long a2, .int y3]) C (mX11_lowest l  h5) w_1767 w_1768 w_115 w_1769 hd_X11_lowest ⟨rfl, rfl, Nat.le_of_ble_eq_true rfl, Nat.le_of_ble_eq_true rfl, Nat.zero_le _, Nat.zero_le _⟩ hP hD hS hl.1 rfl (Nat.le_of_ble_eq_true rfl) dX11_partOfPoint_26) (fun H locs hP hD hS => ?_)
      have ho := Option.some.inj hf
      subst ho
      rw [hQq]
      exact xs_lret C hr hlk hP hD hS dX11_partOfPoint_29
    replace hf := xsBd_use hf
    obtain ⟨v6, hf, hk7⟩ := hf
    refine lv_icmp_ne (tgt := 25) hx hb dX11_partOfPoint_18 (by decide) (fun c9 => ?_) (fun c9 => ?_)
    · replace hf := xsBr_f c9 hf
      refine lv_iconst (v := (0 : Int32)) hx hb dX11_partOfPoint_25 (by decide) ?_
      have ev := Option.some.inj hf
      subst ev
      exact K8 (0 : Int32) hk7 H locs ls hP hD hS (lv_sub hl [] rfl)
    · replace hf := xsBr_t c9 hf
      refine lv_iconst (v := (1 : Int32)) hx hb dX11_partOfPoint_21 (by decide) ?_
      refine lv_goto (tgt := 26) hx hb dX11_partOfPoint_22 (by decide) ?_
      have ev := Option.some.inj hf
      subst ev
      exact K8 (1 : Int32) hk7 H locs ls hP hD hS (lv_sub hl [] rfl)
  replace hf := xsBd_use hf
  obtain ⟨v10, hf, hk11⟩ := hf
  refine lv_icmp_ge (tgt := 10) hx hb dX11_partOfPoint_3 (by decide) (fun c13 => ?_) (fun c13 => ?_)
  · replace hf := xsBr_t c13 hf
    refine lv_lload_n hx hb dX11_partOfPoint_10 rfl (lv_at hl 1 rfl) ?_
    have ev := Option.some.inj hf
    subst ev
    exact K12 a1 hk11 H locs ls hP hD hS (lv_sub hl [2, 3] rfl)
  · replace hf := xsBr_f c13 hf
    refine lv_lload_n hx hb dX11_partOfPoint_6 rfl (lv_at hl 0 rfl) ?_
    refine lv_goto (tgt := 11) hx hb dX11_partOfPoint_7 (by decide) ?_
    have ev := Option.some.inj hf
    subst ev
    exact K12 a0 hk11 H locs ls hP hD hS (lv_sub hl [2, 3] rfl)
set_option maxRecDepth 100000 in
set_option maxHeartbeats 8000000 in
theorem mX11_meet (l : Launch) {X : xsX} {mThrown mRemembered mHasImage mIsLaid mEvents mCrossings mEdges mTaped mPoint mEnd mBegin mFaultAt mActs : Int32} {mWorld mImage mDraft mEarlier mOne mTwo mShare mCrossingOf mBundle mEventOf mDegree mFrom mTo mMet mTape mFive mTold mFar mViews mHullX mHullY mEndX mEndY mMeets mMeetsOf : Nat → Int32} {mX mY mD mHeightUp mHeightLow : Int64} {mEventX mEventY mEventD mUpper mLower : Nat → Int64} {Rw : va_W} {a0 : Int32} {a1 : Int32} {a2 : Int32} {out : Int64 × Int32 × (Nat → Int32) × (Nat → Int32) × (Nat → Int32) × Int64 × Int64 × Int64} (hf : fX11_meet mThrown mWorld mOne mTwo mShare mX mY mD a0 a1 a2 = some out) : Met l yX11_meet (xsWs yX11_meet cX11_meet 4 (some .long)) { frames := 5, cells := 0, slots := 0, locals := 141 } (xsP X (wM X mThrown mWorld mImage mDraft mEarlier mRemembered mHasImage mIsLaid mOne mTwo mShare mX mY mD mEventX mEventY mEventD mEvents mCrossingOf mBundle mEventOf mDegree mFrom mTo mCrossings mEdges mMet mUpper mLower mTape mTaped mPoint mEnd mBegin mFaultAt mFive mTold mActs mFar mViews mHullX mHullY mEndX mEndY mHeightUp mHeightLow mMeets mMeetsOf Rw) [.ref (xsA X 100), .int a0, .int a1, .int a2]) (xsQl X out.1 (wM X out.2.1 mWorld mImage mDraft mEarlier mRemembered mHasImage mIsLaid out.2.2.1 out.2.2.2.1 out.2.2.2.2.1 out.2.2.2.2.2.1 out.2.2.2.2.2.2.1 out.2.2.2.2.2.2.2 mEventX mEventY mEventD mEvents mCrossingOf mBundle mEventOf mDegree mFrom mTo mCrossings mEdges mMet mUpper mLower mTape mTaped mPoint mEnd mBegin mFaultAt mFive mTold mActs mFar mViews mHullX mHullY mEndX mEndY mHeightUp mHeightLow mMeets mMeetsOf Rw)) 0 0 (xsF X) := by
  refine xs_meth RX11 (by decide) rfl (Nat.le_of_ble_eq_true rfl) ?_
  intro p e s m below meth c ls H locs C hP hD hS hr hlk hl
  have hx := C.1
  have hb := C.2.1
  have hl : lv_has ls 4 [(0, .ref (xsA X 100)), (1, .int a0), (2, .int a1), (3, .int a2)] := hl
  obtain ⟨Qq, hQq⟩ : ∃ Qq, Qq = xsQl X out.1 (wM X out.2.1 mWorld mImage mDraft mEarlier mRemembered mHasImage mIsLaid out.2.2.1 out.2.2.2.1 out.2.2.2.2.1 out.2.2.2.2.2.1 out.2.2.2.2.2.2.1 out.2.2.2.2.2.2.2 mEventX mEventY mEventD mEvents mCrossingOf mBundle mEventOf mDegree mFrom mTo mCrossings mEdges mMet mUpper mLower mTape mTaped mPoint mEnd mBegin mFaultAt mFive mTold mActs mFar mViews mHullX mHullY mEndX mEndY mHeightUp mHeightLow mMeets mMeetsOf Rw) := ⟨_, rfl⟩
  rw [← hQq]
  unfold fX11_meet at hf
  refine lv_aload_n hx hb dX11_meet_0 rfl (lv_at hl 0 rfl) ?_
  refine lv_iload_n hx hb dX11_meet_1 rfl (lv_at hl 1 rfl) ?_
  refine lv_iload_n hx hb dX11_meet_2 rfl (lv_at hl 2 rfl) ?_
  replace hf := xsBd_use hf
  obtain ⟨o1, h2, hf⟩ := hf
  refine xs_calli hS (xs_runV (As := [.int a0, .int a1]) C (mX11_noTwo l  h2) w_1748 w_1750 w_71 w_115 w_1751 hd_X11_noTwo ⟨rfl, rfl, Nat.le_of_ble_eq_true rfl, Nat.le_of_ble_eq_true rfl, Nat.zero_le _, Nat.zero_le _⟩ hP hD hS lk_X11 rfl hl.1 rfl (Nat.le_of_ble_eq_true rfl) dX11_meet_3) (fun H locs hP hD hS => ?_)
  refine lv_if_ne (tgt := 52) hx hb dX11_meet_6 (by decide) (fun c33 => ?_) (fun c33 => ?_)
  · replace hf := xsBr_f c33 hf
    refine lv_lconst (v := (0 : Int64)) hx hb dX11_meet_52 (by decide) ?_
    have ho := Option.some.inj hf
    subst ho
    rw [hQq]
    exact xs_lret C hr hlk hP hD hS dX11_meet_53
  · replace hf := xsBr_t c33 hf
    refine lv_aload_n hx hb dX11_meet_9 rfl (lv_at hl 0 rfl) ?_
    refine lv_iload_n hx hb dX11_meet_10 rfl (lv_at hl 3 rfl) ?_
    refine lv_i2l hx hb dX11_meet_11 rfl ?_
    refine lv_lconst (v := (0 : Int64)) hx hb dX11_meet_12 (by decide) ?_
    refine lv_ldc2 (v := (3 : Int64)) hx hb C.2.2.2.1 (xs_kts C _ w_1572) dX11_meet_13 ?_
    replace hf := xsBd_use hf
    obtain ⟨o3, h4, hf⟩ := hf
    refine xs_calli hS (xs_runS (As := [.long a2.toInt64, .long (0 : Int64), .long (3 : Int64)]) C (mX11_in l  h4) w_1573 w_1574 w_115 w_1575 hd_X11_in ⟨rfl, rfl, Nat.le_of_ble_eq_true rfl, Nat.le_of_ble_eq_true rfl, Nat.zero_le _, Nat.zero_le _⟩ hP hD hS hl.1 rfl (Nat.le_of_ble_eq_true rfl) dX11_meet_16) (fun H locs hP hD hS => ?_)
    have K31 : ∀ (y5 : Int32) (hf : fX11_meet_J27 mWorld mOne mTwo mShare mX mY mD a0 a1 a2 o1 y5 = some out) (H : Heap) (locs : List Loc) (ls : Array Slot), va_P (xsD X) vwCl (wM X o1.2 mWorld mImage mDraft mEarlier mRemembered mHasImage mIsLaid mOne mTwo mShare mX mY mD mEventX mEventY mEventD mEvents mCrossingOf mBundle mEventOf mDegree mFrom mTo mCrossings mEdges mMet mUpper mLower mTape mTaped mPoint mEnd mBegin mFaultAt mFive mTold mActs mFar mViews mHullX mHullY mEndX mEndY mHeightUp mHeightLow mMeets mMeetsOf Rw) H → va_D (xsF X) (wM X o1.2 mWorld mImage mDraft mEarlier mRemembered mHasImage mIsLaid mOne mTwo mShare mX mY mD mEventX mEventY mEventD mEvents mCrossingOf mBundle mEventOf mDegree mFrom mTo mCrossings mEdges mMet mUpper mLower mTape mTaped mPoint mEnd mBegin mFaultAt mFive mTold mActs mFar mViews mHullX mHullY mEndX mEndY mHeightUp mHeightLow mMeets mMeetsOf Rw) → va_S (xsF X) s.heap H locs → lv_has ls 4 [(0, .ref (xsA X 100)), (1, .int a0), (2, .int a1), (3, .int a2)] → W p l e { frames := 5, cells := 0, slots := 0, locals := 141 } s m ([.ref (xsA X 100), .int a0, .int a1, .int a2] : List Value).toArray below meth c H locs 0 0 (MQ below Qq ([.ref (xsA X 100), .int a0, .int a1, .int a2] : List Value).toArray s 0 0 (xsF X)) (F0 m 27 ls [.int y5, .ref (xsA X 100)]) := by
      intro y5 hf H locs ls hP hD hS hl
      unfold fX11_meet_J27 at hf
      refine lv_iconst (v := (2 : Int32)) hx hb dX11_meet_27 (by decide) ?_
      replace hf := xsBd_use hf
      obtain ⟨o6, h7, hf⟩ := hf
      refine xs_calli hS (xs_runV (As := [.int y5, .int (2 : Int32)]) C (mX11_throwsIf l  h7) w_1502 w_1504 w_33 w_115 w_1505 hd_X11_throwsIf ⟨rfl, rfl, Nat.le_of_ble_eq_true rfl, Nat.le_of_ble_eq_true rfl, Nat.zero_le _, Nat.zero_le _⟩ hP hD hS lk_X11 rfl hl.1 rfl (Nat.le_of_ble_eq_true rfl) dX11_meet_28) (fun H locs hP hD hS => ?_)
      refine lv_if_ne (tgt := 52) hx hb dX11_meet_31 (by decide) (fun c28 => ?_) (fun c28 => ?_)
      · replace hf := xsBr_f c28 hf
        refine lv_lconst (v := (0 : Int64)) hx hb dX11_meet_52 (by decide) ?_
        have ho := Option.some.inj hf
        subst ho
        rw [hQq]
        exact xs_lret C hr hlk hP hD hS dX11_meet_53
      · replace hf := xsBr_t c28 hf
        refine lv_aload_n hx hb dX11_meet_34 rfl (lv_at hl 0 rfl) ?_
        refine lv_iload_n hx hb dX11_meet_35 rfl (lv_at hl 1 rfl) ?_
        refine lv_iload_n hx hb dX11_meet_36 rfl (lv_at hl 2 rfl) ?_
        have K26 : ∀ (y8 : Int32) (hf : fX11_meet_J45 mWorld mOne mTwo mShare mX mY mD a0 a1 a2 o6 y8 = some out) (H : Heap) (locs : List Loc) (ls : Array Slot), va_P (xsD X) vwCl (wM X o6.2 mWorld mImage mDraft mEarlier mRemembered mHasImage mIsLaid mOne mTwo mShare mX mY mD mEventX mEventY mEventD mEvents mCrossingOf mBundle mEventOf mDegree mFrom mTo mCrossings mEdges mMet mUpper mLower mTape mTaped mPoint mEnd mBegin mFaultAt mFive mTold mActs mFar mViews mHullX mHullY mEndX mEndY mHeightUp mHeightLow mMeets mMeetsOf Rw) H → va_D (xsF X) (wM X o6.2 mWorld mImage mDraft mEarlier mRemembered mHasImage mIsLaid mOne mTwo mShare mX mY mD mEventX mEventY mEventD mEvents mCrossingOf mBundle mEventOf mDegree mFrom mTo mCrossings mEdges mMet mUpper mLower mTape mTaped mPoint mEnd mBegin mFaultAt mFive mTold mActs mFar mViews mHullX mHullY mEndX mEndY mHeightUp mHeightLow mMeets mMeetsOf Rw) → va_S (xsF X) s.heap H locs → lv_has ls 4 [(0, .ref (xsA X 100)), (1, .int a0), (2, .int a1), (3, .int a2)] → W p l e { frames := 5, cells := 0, slots := 0, locals := 141 } s m ([.ref (xsA X 100), .int a0, .int a1, .int a2] : List Value).toArray below meth c H locs 0 0 (MQ below Qq ([.ref (xsA X 100), .int a0, .int a1, .int a2] : List Value).toArray s 0 0 (xsF X)) (F0 m 45 ls [.int y8, .ref (xsA X 100)]) := by
          intro y8 hf H locs ls hP hD hS hl
          unfold fX11_meet_J45 at hf
          refine lv_iconst (v := (3 : Int32)) hx hb dX11_meet_45 (by decide) ?_
          replace hf := xsBd_use hf
          obtain ⟨o9, h10, hf⟩ := hf
          refine xs_calli hS (xs_runV (As := [.int y8, .int (3 : Int32)]) C (mX11_throwsIf l  h10) w_1502 w_1504 w_33 w_115 w_1505 hd_X11_throwsIf ⟨rfl, rfl, Nat.le_of_ble_eq_true rfl, Nat.le_of_ble_eq_true rfl, Nat.zero_le _, Nat.zero_le _⟩ hP hD hS lk_X11 rfl hl.1 rfl (Nat.le_of_ble_eq_true rfl) dX11_meet_46) (fun H locs hP hD hS => ?_)
          refine lv_if_eq (tgt := 54) hx hb dX11_meet_49 (by decide) (fun c23 => ?_) (fun c23 => ?_)
          · replace hf := xsBr_t c23 hf
            refine lv_aload_n hx hb dX11_meet_54 rfl (lv_at hl 0 rfl) ?_
            refine lv_aload_n hx hb dX11_meet_55 rfl (lv_at hl 0 rfl) ?_
            refine lv_iload_n hx hb dX11_meet_56 rfl (lv_at hl 1 rfl) ?_
            refine lv_iload_n hx hb dX11_meet_57 rfl (lv_at hl 2 rfl) ?_
            replace hf := xsBd_use hf
            obtain ⟨o11, h12, hf⟩ := hf
            refine xs_calli hS (xs_runV (As := [.int a0, .int a1]) C (mX11_sharesOf l  h12) w_1657 w_1659 w_58 w_115 w_1660 hd_X11_sharesOf ⟨rfl, rfl, Nat.le_of_ble_eq_true rfl, Nat.le_of_ble_eq_true rfl, Nat.zero_le _, Nat.zero_le _⟩ hP hD hS lk_X11 rfl hl.1 rfl (Nat.le_of_ble_eq_true rfl) dX11_meet_58) (fun H locs hP hD hS => ?_)
            refine lv_iconst (v := (1 : Int32)) hx hb dX11_meet_61 (by decide) ?_
            have K21 : ∀ (y13 : Int32) (hf : fX11_meet_J70 a2 o9 o11 y13 = some out) (H : Heap) (locs : List Loc) (ls : Array Slot), va_P (xsD X) vwCl (wM X o9.2 mWorld mImage mDraft mEarlier mRemembered mHasImage mIsLaid o11.2.1 o11.2.2.1 o11.2.2.2.1 o11.2.2.2.2.1 o11.2.2.2.2.2.1 o11.2.2.2.2.2.2 mEventX mEventY mEventD mEvents mCrossingOf mBundle mEventOf mDegree mFrom mTo mCrossings mEdges mMet mUpper mLower mTape mTaped mPoint mEnd mBegin mFaultAt mFive mTold mActs mFar mViews mHullX mHullY mEndX mEndY mHeightUp mHeightLow mMeets mMeetsOf Rw) H → va_D (xsF X) (wM X o9.2 mWorld mImage mDraft mEarlier mRemembered mHasImage mIsLaid o11.2.1 o11.2.2.1 o11.2.2.2.1 o11.2.2.2.2.1 o11.2.2.2.2.2.1 o11.2.2.2.2.2.2 mEventX mEventY mEventD mEvents mCrossingOf mBundle mEventOf mDegree mFrom mTo mCrossings mEdges mMet mUpper mLower mTape mTaped mPoint mEnd mBegin mFaultAt mFive mTold mActs mFar mViews mHullX mHullY mEndX mEndY mHeightUp mHeightLow mMeets mMeetsOf Rw) → va_S (xsF X) s.heap H locs → lv_has ls 4 [(0, .ref (xsA X 100)), (3, .int a2)] → W p l e { frames := 5, cells := 0, slots := 0, locals := 141 } s m ([.ref (xsA X 100), .int a0, .int a1, .int a2] : List Value).toArray below meth c H locs 0 0 (MQ below Qq ([.ref (xsA X 100), .int a0, .int a1, .int a2] : List Value).toArray s 0 0 (xsF X)) (F0 m 70 ls [.int y13, .ref (xsA X 100)]) := by
              intro y13 hf H locs ls hP hD hS hl
              unfold fX11_meet_J70 at hf
              refine lv_iconst (v := (4 : Int32)) hx hb dX11_meet_70 (by decide) ?_
              replace hf := xsBd_use hf
              obtain ⟨o14, h15, hf⟩ := hf
              refine xs_calli hS (xs_runV (As := [.int y13, .int (4 : Int32)]) C (mX11_throwsIf l  h15) w_1502 w_1504 w_33 w_115 w_1505 hd_X11_throwsIf ⟨rfl, rfl, Nat.le_of_ble_eq_true rfl, Nat.le_of_ble_eq_true rfl, Nat.zero_le _, Nat.zero_le _⟩ hP hD hS lk_X11 rfl hl.1 rfl (Nat.le_of_ble_eq_true rfl) dX11_meet_71) (fun H locs hP hD hS => ?_)
              refine lv_if_eq (tgt := 81) hx hb dX11_meet_74 (by decide) (fun c18 => ?_) (fun c18 => ?_)
              · replace hf := xsBr_t c18 hf
                refine lv_aload_n hx hb dX11_meet_81 rfl (lv_at hl 0 rfl) ?_
                refine xg_X11_147 C hP dX11_meet_82 ?_
                refine lv_aload_n hx hb dX11_meet_85 rfl (lv_at hl 0 rfl) ?_
                refine xg_X11_151 C hP dX11_meet_86 ?_
                refine lv_aload_n hx hb dX11_meet_89 rfl (lv_at hl 0 rfl) ?_
                refine xg_X11_154 C hP dX11_meet_90 ?_
                refine lv_iload_n hx hb dX11_meet_93 rfl (lv_at hl 1 rfl) ?_
                replace hf := xsBd_use hf
                obtain ⟨o16, h17, hf⟩ := hf
                refine xs_calll hS (xs_runS (As := [.long o11.2.2.2.2.1, .long o11.2.2.2.2.2.1, .long o11.2.2.2.2.2.2, .int a2]) C (mX11_partOfPoint l  h17) w_1764 w_1765 w_115 w_1766 hd_X11_partOfPoint ⟨rfl, rfl, Nat.le_of_ble_eq_true rfl, Nat.le_of_ble_eq_true rfl, Nat.zero_le _, Nat.zero_le _⟩ hP hD hS hl.1 rfl (Nat.le_of_ble_eq_true rfl) dX11_meet_94) (fun H locs hP hD hS => ?_)
                have ho := Option.some.inj hf
                subst ho
                rw [hQq]
                exact xs_lret C hr hlk hP hD hS dX11_meet_97
              · replace hf := xsBr_f c18 hf
                refine lv_lconst (v := (0 : Int64)) hx hb dX11_meet_77 (by decide) ?_
                refine lv_goto (tgt := 97) hx hb dX11_meet_78 (by decide) ?_
                have ho := Option.some.inj hf
                subst ho
                rw [hQq]
                exact xs_lret C hr hlk hP hD hS dX11_meet_97
            replace hf := xsBd_use hf
            obtain ⟨v19, hf, hk20⟩ := hf
            refine lv_icmp_eq (tgt := 69) hx hb dX11_meet_62 (by decide) (fun c22 => ?_) (fun c22 => ?_)
            · replace hf := xsBr_t c22 hf
              refine lv_iconst (v := (0 : Int32)) hx hb dX11_meet_69 (by decide) ?_
              have ev := Option.some.inj hf
              subst ev
              exact K21 (0 : Int32) hk20 H locs ls hP hD hS (lv_sub hl [0, 3] rfl)
            · replace hf := xsBr_f c22 hf
              refine lv_iconst (v := (1 : Int32)) hx hb dX11_meet_65 (by decide) ?_
              refine lv_goto (tgt := 70) hx hb dX11_meet_66 (by decide) ?_
              have ev := Option.some.inj hf
              subst ev
              exact K21 (1 : Int32) hk20 H locs ls hP hD hS (lv_sub hl [0, 3] rfl)
          · replace hf := xsBr_f c23 hf
            refine lv_lconst (v := (0 : Int64)) hx hb dX11_meet_52 (by decide) ?_
            have ho := Option.some.inj hf
            subst ho
            rw [hQq]
            exact xs_lret C hr hlk hP hD hS dX11_meet_53
        replace hf := xsBd_use hf
        obtain ⟨v24, hf, hk25⟩ := hf
        refine lv_icmp_ne (tgt := 44) hx hb dX11_meet_37 (by decide) (fun c27 => ?_) (fun c27 => ?_)
        · replace hf := xsBr_f c27 hf
          refine lv_iconst (v := (0 : Int32)) hx hb dX11_meet_44 (by decide) ?_
          have ev := Option.some.inj hf
          subst ev
          exact K26 (0 : Int32) hk25 H locs ls hP hD hS (lv_sub hl [0, 1, 2, 3] rfl)
        · replace hf := xsBr_t c27 hf
          refine lv_iconst (v := (1 : Int32)) hx hb dX11_meet_40 (by decide) ?_
          refine lv_goto (tgt := 45) hx hb dX11_meet_41 (by decide) ?_
          have ev := Option.some.inj hf
          subst ev
          exact K26 (1 : Int32) hk25 H locs ls hP hD hS (lv_sub hl [0, 1, 2, 3] rfl)
    replace hf := xsBd_use hf
    obtain ⟨v29, hf, hk30⟩ := hf
    refine lv_if_ne (tgt := 26) hx hb dX11_meet_19 (by decide) (fun c32 => ?_) (fun c32 => ?_)
    · replace hf := xsBr_f c32 hf
      refine lv_iconst (v := (0 : Int32)) hx hb dX11_meet_26 (by decide) ?_
      have ev := Option.some.inj hf
      subst ev
      exact K31 (0 : Int32) hk30 H locs ls hP hD hS (lv_sub hl [0, 1, 2, 3] rfl)
    · replace hf := xsBr_t c32 hf
      refine lv_iconst (v := (1 : Int32)) hx hb dX11_meet_22 (by decide) ?_
      refine lv_goto (tgt := 27) hx hb dX11_meet_23 (by decide) ?_
      have ev := Option.some.inj hf
      subst ev
      exact K31 (1 : Int32) hk30 H locs ls hP hD hS (lv_sub hl [0, 1, 2, 3] rfl)
set_option maxRecDepth 100000 in
set_option maxHeartbeats 8000000 in
theorem mX11_along (l : Launch) {X : xsX} {mThrown mRemembered mHasImage mIsLaid mEvents mCrossings mEdges mTaped mPoint mEnd mBegin mFaultAt mActs : Int32} {mWorld mImage mDraft mEarlier mOne mTwo mShare mCrossingOf mBundle mEventOf mDegree mFrom mTo mMet mTape mFive mTold mFar mViews mHullX mHullY mEndX mEndY mMeets mMeetsOf : Nat → Int32} {mX mY mD mHeightUp mHeightLow : Int64} {mEventX mEventY mEventD mUpper mLower : Nat → Int64} {Rw : va_W} {a0 : Int32} {a1 : Int32} {a2 : Int32} {out : Int32 × Int32 × (Nat → Int32) × (Nat → Int32) × (Nat → Int32) × Int64 × Int64 × Int64} (hf : fX11_along mThrown mWorld mOne mTwo mShare mX mY mD a0 a1 a2 = some out) : Met l yX11_along (xsWs yX11_along cX11_along 4 (some .int)) { frames := 5, cells := 0, slots := 0, locals := 141 } (xsP X (wM X mThrown mWorld mImage mDraft mEarlier mRemembered mHasImage mIsLaid mOne mTwo mShare mX mY mD mEventX mEventY mEventD mEvents mCrossingOf mBundle mEventOf mDegree mFrom mTo mCrossings mEdges mMet mUpper mLower mTape mTaped mPoint mEnd mBegin mFaultAt mFive mTold mActs mFar mViews mHullX mHullY mEndX mEndY mHeightUp mHeightLow mMeets mMeetsOf Rw) [.ref (xsA X 100), .int a0, .int a1, .int a2]) (xsQi X out.1 (wM X out.2.1 mWorld mImage mDraft mEarlier mRemembered mHasImage mIsLaid out.2.2.1 out.2.2.2.1 out.2.2.2.2.1 out.2.2.2.2.2.1 out.2.2.2.2.2.2.1 out.2.2.2.2.2.2.2 mEventX mEventY mEventD mEvents mCrossingOf mBundle mEventOf mDegree mFrom mTo mCrossings mEdges mMet mUpper mLower mTape mTaped mPoint mEnd mBegin mFaultAt mFive mTold mActs mFar mViews mHullX mHullY mEndX mEndY mHeightUp mHeightLow mMeets mMeetsOf Rw)) 0 0 (xsF X) := by
  refine xs_meth RX11 (by decide) rfl (Nat.le_of_ble_eq_true rfl) ?_
  intro p e s m below meth c ls H locs C hP hD hS hr hlk hl
  have hx := C.1
  have hb := C.2.1
  have hl : lv_has ls 4 [(0, .ref (xsA X 100)), (1, .int a0), (2, .int a1), (3, .int a2)] := hl
  obtain ⟨Qq, hQq⟩ : ∃ Qq, Qq = xsQi X out.1 (wM X out.2.1 mWorld mImage mDraft mEarlier mRemembered mHasImage mIsLaid out.2.2.1 out.2.2.2.1 out.2.2.2.2.1 out.2.2.2.2.2.1 out.2.2.2.2.2.2.1 out.2.2.2.2.2.2.2 mEventX mEventY mEventD mEvents mCrossingOf mBundle mEventOf mDegree mFrom mTo mCrossings mEdges mMet mUpper mLower mTape mTaped mPoint mEnd mBegin mFaultAt mFive mTold mActs mFar mViews mHullX mHullY mEndX mEndY mHeightUp mHeightLow mMeets mMeetsOf Rw) := ⟨_, rfl⟩
  rw [← hQq]
  unfold fX11_along at hf
  refine lv_aload_n hx hb dX11_along_0 rfl (lv_at hl 0 rfl) ?_
  refine lv_iload_n hx hb dX11_along_1 rfl (lv_at hl 1 rfl) ?_
  refine lv_iload_n hx hb dX11_along_2 rfl (lv_at hl 2 rfl) ?_
  replace hf := xsBd_use hf
  obtain ⟨o1, h2, hf⟩ := hf
  refine xs_calli hS (xs_runV (As := [.int a0, .int a1]) C (mX11_noTwo l  h2) w_1748 w_1750 w_71 w_115 w_1751 hd_X11_noTwo ⟨rfl, rfl, Nat.le_of_ble_eq_true rfl, Nat.le_of_ble_eq_true rfl, Nat.zero_le _, Nat.zero_le _⟩ hP hD hS lk_X11 rfl hl.1 rfl (Nat.le_of_ble_eq_true rfl) dX11_along_3) (fun H locs hP hD hS => ?_)
  refine lv_if_ne (tgt := 52) hx hb dX11_along_6 (by decide) (fun c32 => ?_) (fun c32 => ?_)
  · replace hf := xsBr_f c32 hf
    refine lv_iconst (v := (0 : Int32)) hx hb dX11_along_52 (by decide) ?_
    have ho := Option.some.inj hf
    subst ho
    rw [hQq]
    exact xs_iret C hr hlk hP hD hS dX11_along_53
  · replace hf := xsBr_t c32 hf
    refine lv_aload_n hx hb dX11_along_9 rfl (lv_at hl 0 rfl) ?_
    refine lv_iload_n hx hb dX11_along_10 rfl (lv_at hl 3 rfl) ?_
    refine lv_i2l hx hb dX11_along_11 rfl ?_
    refine lv_lconst (v := (0 : Int64)) hx hb dX11_along_12 (by decide) ?_
    refine lv_ldc2 (v := (3 : Int64)) hx hb C.2.2.2.1 (xs_kts C _ w_1572) dX11_along_13 ?_
    replace hf := xsBd_use hf
    obtain ⟨o3, h4, hf⟩ := hf
    refine xs_calli hS (xs_runS (As := [.long a2.toInt64, .long (0 : Int64), .long (3 : Int64)]) C (mX11_in l  h4) w_1573 w_1574 w_115 w_1575 hd_X11_in ⟨rfl, rfl, Nat.le_of_ble_eq_true rfl, Nat.le_of_ble_eq_true rfl, Nat.zero_le _, Nat.zero_le _⟩ hP hD hS hl.1 rfl (Nat.le_of_ble_eq_true rfl) dX11_along_16) (fun H locs hP hD hS => ?_)
    have K30 : ∀ (y5 : Int32) (hf : fX11_along_J27 mWorld mOne mTwo mShare mX mY mD a0 a1 a2 o1 y5 = some out) (H : Heap) (locs : List Loc) (ls : Array Slot), va_P (xsD X) vwCl (wM X o1.2 mWorld mImage mDraft mEarlier mRemembered mHasImage mIsLaid mOne mTwo mShare mX mY mD mEventX mEventY mEventD mEvents mCrossingOf mBundle mEventOf mDegree mFrom mTo mCrossings mEdges mMet mUpper mLower mTape mTaped mPoint mEnd mBegin mFaultAt mFive mTold mActs mFar mViews mHullX mHullY mEndX mEndY mHeightUp mHeightLow mMeets mMeetsOf Rw) H → va_D (xsF X) (wM X o1.2 mWorld mImage mDraft mEarlier mRemembered mHasImage mIsLaid mOne mTwo mShare mX mY mD mEventX mEventY mEventD mEvents mCrossingOf mBundle mEventOf mDegree mFrom mTo mCrossings mEdges mMet mUpper mLower mTape mTaped mPoint mEnd mBegin mFaultAt mFive mTold mActs mFar mViews mHullX mHullY mEndX mEndY mHeightUp mHeightLow mMeets mMeetsOf Rw) → va_S (xsF X) s.heap H locs → lv_has ls 4 [(0, .ref (xsA X 100)), (1, .int a0), (2, .int a1), (3, .int a2)] → W p l e { frames := 5, cells := 0, slots := 0, locals := 141 } s m ([.ref (xsA X 100), .int a0, .int a1, .int a2] : List Value).toArray below meth c H locs 0 0 (MQ below Qq ([.ref (xsA X 100), .int a0, .int a1, .int a2] : List Value).toArray s 0 0 (xsF X)) (F0 m 27 ls [.int y5, .ref (xsA X 100)]) := by
      intro y5 hf H locs ls hP hD hS hl
      unfold fX11_along_J27 at hf
      refine lv_iconst (v := (2 : Int32)) hx hb dX11_along_27 (by decide) ?_
      replace hf := xsBd_use hf
      obtain ⟨o6, h7, hf⟩ := hf
      refine xs_calli hS (xs_runV (As := [.int y5, .int (2 : Int32)]) C (mX11_throwsIf l  h7) w_1502 w_1504 w_33 w_115 w_1505 hd_X11_throwsIf ⟨rfl, rfl, Nat.le_of_ble_eq_true rfl, Nat.le_of_ble_eq_true rfl, Nat.zero_le _, Nat.zero_le _⟩ hP hD hS lk_X11 rfl hl.1 rfl (Nat.le_of_ble_eq_true rfl) dX11_along_28) (fun H locs hP hD hS => ?_)
      refine lv_if_ne (tgt := 52) hx hb dX11_along_31 (by decide) (fun c27 => ?_) (fun c27 => ?_)
      · replace hf := xsBr_f c27 hf
        refine lv_iconst (v := (0 : Int32)) hx hb dX11_along_52 (by decide) ?_
        have ho := Option.some.inj hf
        subst ho
        rw [hQq]
        exact xs_iret C hr hlk hP hD hS dX11_along_53
      · replace hf := xsBr_t c27 hf
        refine lv_aload_n hx hb dX11_along_34 rfl (lv_at hl 0 rfl) ?_
        refine lv_iload_n hx hb dX11_along_35 rfl (lv_at hl 1 rfl) ?_
        refine lv_iload_n hx hb dX11_along_36 rfl (lv_at hl 2 rfl) ?_
        have K25 : ∀ (y8 : Int32) (hf : fX11_along_J45 mWorld mOne mTwo mShare mX mY mD a0 a1 a2 o6 y8 = some out) (H : Heap) (locs : List Loc) (ls : Array Slot), va_P (xsD X) vwCl (wM X o6.2 mWorld mImage mDraft mEarlier mRemembered mHasImage mIsLaid mOne mTwo mShare mX mY mD mEventX mEventY mEventD mEvents mCrossingOf mBundle mEventOf mDegree mFrom mTo mCrossings mEdges mMet mUpper mLower mTape mTaped mPoint mEnd mBegin mFaultAt mFive mTold mActs mFar mViews mHullX mHullY mEndX mEndY mHeightUp mHeightLow mMeets mMeetsOf Rw) H → va_D (xsF X) (wM X o6.2 mWorld mImage mDraft mEarlier mRemembered mHasImage mIsLaid mOne mTwo mShare mX mY mD mEventX mEventY mEventD mEvents mCrossingOf mBundle mEventOf mDegree mFrom mTo mCrossings mEdges mMet mUpper mLower mTape mTaped mPoint mEnd mBegin mFaultAt mFive mTold mActs mFar mViews mHullX mHullY mEndX mEndY mHeightUp mHeightLow mMeets mMeetsOf Rw) → va_S (xsF X) s.heap H locs → lv_has ls 4 [(0, .ref (xsA X 100)), (1, .int a0), (2, .int a1), (3, .int a2)] → W p l e { frames := 5, cells := 0, slots := 0, locals := 141 } s m ([.ref (xsA X 100), .int a0, .int a1, .int a2] : List Value).toArray below meth c H locs 0 0 (MQ below Qq ([.ref (xsA X 100), .int a0, .int a1, .int a2] : List Value).toArray s 0 0 (xsF X)) (F0 m 45 ls [.int y8, .ref (xsA X 100)]) := by
          intro y8 hf H locs ls hP hD hS hl
          unfold fX11_along_J45 at hf
          refine lv_iconst (v := (3 : Int32)) hx hb dX11_along_45 (by decide) ?_
          replace hf := xsBd_use hf
          obtain ⟨o9, h10, hf⟩ := hf
          refine xs_calli hS (xs_runV (As := [.int y8, .int (3 : Int32)]) C (mX11_throwsIf l  h10) w_1502 w_1504 w_33 w_115 w_1505 hd_X11_throwsIf ⟨rfl, rfl, Nat.le_of_ble_eq_true rfl, Nat.le_of_ble_eq_true rfl, Nat.zero_le _, Nat.zero_le _⟩ hP hD hS lk_X11 rfl hl.1 rfl (Nat.le_of_ble_eq_true rfl) dX11_along_46) (fun H locs hP hD hS => ?_)
          refine lv_if_eq (tgt := 54) hx hb dX11_along_49 (by decide) (fun c22 => ?_) (fun c22 => ?_)
          · replace hf := xsBr_t c22 hf
            refine lv_aload_n hx hb dX11_along_54 rfl (lv_at hl 0 rfl) ?_
            refine lv_aload_n hx hb dX11_along_55 rfl (lv_at hl 0 rfl) ?_
            refine lv_iload_n hx hb dX11_along_56 rfl (lv_at hl 1 rfl) ?_
            refine lv_iload_n hx hb dX11_along_57 rfl (lv_at hl 2 rfl) ?_
            replace hf := xsBd_use hf
            obtain ⟨o11, h12, hf⟩ := hf
            refine xs_calli hS (xs_runV (As := [.int a0, .int a1]) C (mX11_sharesOf l  h12) w_1657 w_1659 w_58 w_115 w_1660 hd_X11_sharesOf ⟨rfl, rfl, Nat.le_of_ble_eq_true rfl, Nat.le_of_ble_eq_true rfl, Nat.zero_le _, Nat.zero_le _⟩ hP hD hS lk_X11 rfl hl.1 rfl (Nat.le_of_ble_eq_true rfl) dX11_along_58) (fun H locs hP hD hS => ?_)
            refine lv_iconst (v := (2 : Int32)) hx hb dX11_along_61 (by decide) ?_
            have K20 : ∀ (y13 : Int32) (hf : fX11_along_J70 a2 o9 o11 y13 = some out) (H : Heap) (locs : List Loc) (ls : Array Slot), va_P (xsD X) vwCl (wM X o9.2 mWorld mImage mDraft mEarlier mRemembered mHasImage mIsLaid o11.2.1 o11.2.2.1 o11.2.2.2.1 o11.2.2.2.2.1 o11.2.2.2.2.2.1 o11.2.2.2.2.2.2 mEventX mEventY mEventD mEvents mCrossingOf mBundle mEventOf mDegree mFrom mTo mCrossings mEdges mMet mUpper mLower mTape mTaped mPoint mEnd mBegin mFaultAt mFive mTold mActs mFar mViews mHullX mHullY mEndX mEndY mHeightUp mHeightLow mMeets mMeetsOf Rw) H → va_D (xsF X) (wM X o9.2 mWorld mImage mDraft mEarlier mRemembered mHasImage mIsLaid o11.2.1 o11.2.2.1 o11.2.2.2.1 o11.2.2.2.2.1 o11.2.2.2.2.2.1 o11.2.2.2.2.2.2 mEventX mEventY mEventD mEvents mCrossingOf mBundle mEventOf mDegree mFrom mTo mCrossings mEdges mMet mUpper mLower mTape mTaped mPoint mEnd mBegin mFaultAt mFive mTold mActs mFar mViews mHullX mHullY mEndX mEndY mHeightUp mHeightLow mMeets mMeetsOf Rw) → va_S (xsF X) s.heap H locs → lv_has ls 4 [(0, .ref (xsA X 100)), (3, .int a2)] → W p l e { frames := 5, cells := 0, slots := 0, locals := 141 } s m ([.ref (xsA X 100), .int a0, .int a1, .int a2] : List Value).toArray below meth c H locs 0 0 (MQ below Qq ([.ref (xsA X 100), .int a0, .int a1, .int a2] : List Value).toArray s 0 0 (xsF X)) (F0 m 70 ls [.int y13, .ref (xsA X 100)]) := by
              intro y13 hf H locs ls hP hD hS hl
              unfold fX11_along_J70 at hf
              refine lv_iconst (v := (4 : Int32)) hx hb dX11_along_70 (by decide) ?_
              replace hf := xsBd_use hf
              obtain ⟨o14, h15, hf⟩ := hf
              refine xs_calli hS (xs_runV (As := [.int y13, .int (4 : Int32)]) C (mX11_throwsIf l  h15) w_1502 w_1504 w_33 w_115 w_1505 hd_X11_throwsIf ⟨rfl, rfl, Nat.le_of_ble_eq_true rfl, Nat.le_of_ble_eq_true rfl, Nat.zero_le _, Nat.zero_le _⟩ hP hD hS lk_X11 rfl hl.1 rfl (Nat.le_of_ble_eq_true rfl) dX11_along_71) (fun H locs hP hD hS => ?_)
              refine lv_if_eq (tgt := 81) hx hb dX11_along_74 (by decide) (fun c17 => ?_) (fun c17 => ?_)
              · replace hf := xsBr_t c17 hf
                refine lv_aload_n hx hb dX11_along_81 rfl (lv_at hl 0 rfl) ?_
                refine xg_X11_32 C hP dX11_along_82 ?_
                refine lv_iload_n hx hb dX11_along_85 rfl (lv_at hl 1 rfl) ?_
                replace hf := xsCk_use hf
                obtain ⟨h16, hf⟩ := hf
                refine xl_mShare C hP h16 dX11_along_86 ?_
                have ho := Option.some.inj hf
                subst ho
                rw [hQq]
                exact xs_iret C hr hlk hP hD hS dX11_along_87
              · replace hf := xsBr_f c17 hf
                refine lv_iconst (v := (0 : Int32)) hx hb dX11_along_77 (by decide) ?_
                refine lv_goto (tgt := 87) hx hb dX11_along_78 (by decide) ?_
                have ho := Option.some.inj hf
                subst ho
                rw [hQq]
                exact xs_iret C hr hlk hP hD hS dX11_along_87
            replace hf := xsBd_use hf
            obtain ⟨v18, hf, hk19⟩ := hf
            refine lv_icmp_eq (tgt := 69) hx hb dX11_along_62 (by decide) (fun c21 => ?_) (fun c21 => ?_)
            · replace hf := xsBr_t c21 hf
              refine lv_iconst (v := (0 : Int32)) hx hb dX11_along_69 (by decide) ?_
              have ev := Option.some.inj hf
              subst ev
              exact K20 (0 : Int32) hk19 H locs ls hP hD hS (lv_sub hl [0, 3] rfl)
            · replace hf := xsBr_f c21 hf
              refine lv_iconst (v := (1 : Int32)) hx hb dX11_along_65 (by decide) ?_
              refine lv_goto (tgt := 70) hx hb dX11_along_66 (by decide) ?_
              have ev := Option.some.inj hf
              subst ev
              exact K20 (1 : Int32) hk19 H locs ls hP hD hS (lv_sub hl [0, 3] rfl)
          · replace hf := xsBr_f c22 hf
            refine lv_iconst (v := (0 : Int32)) hx hb dX11_along_52 (by decide) ?_
            have ho := Option.some.inj hf
            subst ho
            rw [hQq]
            exact xs_iret C hr hlk hP hD hS dX11_along_53
        replace hf := xsBd_use hf
        obtain ⟨v23, hf, hk24⟩ := hf
        refine lv_icmp_ne (tgt := 44) hx hb dX11_along_37 (by decide) (fun c26 => ?_) (fun c26 => ?_)
        · replace hf := xsBr_f c26 hf
          refine lv_iconst (v := (0 : Int32)) hx hb dX11_along_44 (by decide) ?_
          have ev := Option.some.inj hf
          subst ev
          exact K25 (0 : Int32) hk24 H locs ls hP hD hS (lv_sub hl [0, 1, 2, 3] rfl)
        · replace hf := xsBr_t c26 hf
          refine lv_iconst (v := (1 : Int32)) hx hb dX11_along_40 (by decide) ?_
          refine lv_goto (tgt := 45) hx hb dX11_along_41 (by decide) ?_
          have ev := Option.some.inj hf
          subst ev
          exact K25 (1 : Int32) hk24 H locs ls hP hD hS (lv_sub hl [0, 1, 2, 3] rfl)
    replace hf := xsBd_use hf
    obtain ⟨v28, hf, hk29⟩ := hf
    refine lv_if_ne (tgt := 26) hx hb dX11_along_19 (by decide) (fun c31 => ?_) (fun c31 => ?_)
    · replace hf := xsBr_f c31 hf
      refine lv_iconst (v := (0 : Int32)) hx hb dX11_along_26 (by decide) ?_
      have ev := Option.some.inj hf
      subst ev
      exact K30 (0 : Int32) hk29 H locs ls hP hD hS (lv_sub hl [0, 1, 2, 3] rfl)
    · replace hf := xsBr_t c31 hf
      refine lv_iconst (v := (1 : Int32)) hx hb dX11_along_22 (by decide) ?_
      refine lv_goto (tgt := 27) hx hb dX11_along_23 (by decide) ?_
      have ev := Option.some.inj hf
      subst ev
      exact K30 (1 : Int32) hk29 H locs ls hP hD hS (lv_sub hl [0, 1, 2, 3] rfl)
set_option maxRecDepth 100000 in
set_option maxHeartbeats 8000000 in
theorem mX11_tintsOf (l : Launch) {X : xsX} {mThrown mRemembered mHasImage mIsLaid mEvents mCrossings mEdges mTaped mPoint mEnd mBegin mFaultAt mActs : Int32} {mWorld mImage mDraft mEarlier mOne mTwo mShare mCrossingOf mBundle mEventOf mDegree mFrom mTo mMet mTape mFive mTold mFar mViews mHullX mHullY mEndX mEndY mMeets mMeetsOf : Nat → Int32} {mX mY mD mHeightUp mHeightLow : Int64} {mEventX mEventY mEventD mUpper mLower : Nat → Int64} {Rw : va_W} {a0 : Int32} {out : Int32} (hf : fX11_tintsOf mWorld a0 = some out) : Met l yX11_tintsOf (xsWs yX11_tintsOf cX11_tintsOf 4 (some .int)) { frames := 1, cells := 0, slots := 0, locals := 22 } (xsP X (wM X mThrown mWorld mImage mDraft mEarlier mRemembered mHasImage mIsLaid mOne mTwo mShare mX mY mD mEventX mEventY mEventD mEvents mCrossingOf mBundle mEventOf mDegree mFrom mTo mCrossings mEdges mMet mUpper mLower mTape mTaped mPoint mEnd mBegin mFaultAt mFive mTold mActs mFar mViews mHullX mHullY mEndX mEndY mHeightUp mHeightLow mMeets mMeetsOf Rw) [.ref (xsA X 100), .int a0]) (xsQi X out (wM X mThrown mWorld mImage mDraft mEarlier mRemembered mHasImage mIsLaid mOne mTwo mShare mX mY mD mEventX mEventY mEventD mEvents mCrossingOf mBundle mEventOf mDegree mFrom mTo mCrossings mEdges mMet mUpper mLower mTape mTaped mPoint mEnd mBegin mFaultAt mFive mTold mActs mFar mViews mHullX mHullY mEndX mEndY mHeightUp mHeightLow mMeets mMeetsOf Rw)) 0 0 (xsF X) := by
  refine xs_meth RX11 (by decide) rfl (Nat.le_of_ble_eq_true rfl) ?_
  intro p e s m below meth c ls H locs C hP hD hS hr hlk hl
  have hx := C.1
  have hb := C.2.1
  have hl : lv_has ls 4 [(0, .ref (xsA X 100)), (1, .int a0)] := hl
  obtain ⟨Qq, hQq⟩ : ∃ Qq, Qq = xsQi X out (wM X mThrown mWorld mImage mDraft mEarlier mRemembered mHasImage mIsLaid mOne mTwo mShare mX mY mD mEventX mEventY mEventD mEvents mCrossingOf mBundle mEventOf mDegree mFrom mTo mCrossings mEdges mMet mUpper mLower mTape mTaped mPoint mEnd mBegin mFaultAt mFive mTold mActs mFar mViews mHullX mHullY mEndX mEndY mHeightUp mHeightLow mMeets mMeetsOf Rw) := ⟨_, rfl⟩
  rw [← hQq]
  unfold fX11_tintsOf at hf
  refine lv_iconst (v := (0 : Int32)) hx hb dX11_tintsOf_0 (by decide) ?_
  refine lv_istore_n (lv' := [(2, .int (0 : Int32)), (0, .ref (xsA X 100)), (1, .int a0)]) hx hb dX11_tintsOf_1 rfl hl (by decide) rfl (fun ls hl => ?_)
  refine lv_iconst (v := (0 : Int32)) hx hb dX11_tintsOf_2 (by decide) ?_
  refine lv_istore_n (lv' := [(3, .int (0 : Int32)), (2, .int (0 : Int32)), (0, .ref (xsA X 100)), (1, .int a0)]) hx hb dX11_tintsOf_3 rfl hl (by decide) rfl (fun ls hl => ?_)
  have K3 : ∀ (y4 : Int32) (hf : fX11_tintsOf_J41 y4 = some out) (H : Heap) (locs : List Loc) (ls : Array Slot), va_P (xsD X) vwCl (wM X mThrown mWorld mImage mDraft mEarlier mRemembered mHasImage mIsLaid mOne mTwo mShare mX mY mD mEventX mEventY mEventD mEvents mCrossingOf mBundle mEventOf mDegree mFrom mTo mCrossings mEdges mMet mUpper mLower mTape mTaped mPoint mEnd mBegin mFaultAt mFive mTold mActs mFar mViews mHullX mHullY mEndX mEndY mHeightUp mHeightLow mMeets mMeetsOf Rw) H → va_D (xsF X) (wM X mThrown mWorld mImage mDraft mEarlier mRemembered mHasImage mIsLaid mOne mTwo mShare mX mY mD mEventX mEventY mEventD mEvents mCrossingOf mBundle mEventOf mDegree mFrom mTo mCrossings mEdges mMet mUpper mLower mTape mTaped mPoint mEnd mBegin mFaultAt mFive mTold mActs mFar mViews mHullX mHullY mEndX mEndY mHeightUp mHeightLow mMeets mMeetsOf Rw) → va_S (xsF X) s.heap H locs → lv_has ls 4 [(2, .int y4)] → W p l e { frames := 1, cells := 0, slots := 0, locals := 22 } s m ([.ref (xsA X 100), .int a0] : List Value).toArray below meth c H locs 0 0 (MQ below Qq ([.ref (xsA X 100), .int a0] : List Value).toArray s 0 0 (xsF X)) (F0 m 41 ls []) := by
    intro y4 hf H locs ls hP hD hS hl
    unfold fX11_tintsOf_J41 at hf
    refine lv_iload_n hx hb dX11_tintsOf_41 rfl (lv_at hl 0 rfl) ?_
    have ho := Option.some.inj hf
    subst ho
    rw [hQq]
    exact xs_iret C hr hlk hP hD hS dX11_tintsOf_42
  replace hf := xsBd_use hf
  obtain ⟨r3, hk30, hf⟩ := hf
  have L3 : ∀ (sg : Int32 × Int32) (rg : Int32), xsWh (fun s3 => fX11_tintsOf_L4 mWorld a0 s3.1 s3.2) sg = some rg → (fX11_tintsOf_J41 rg = some out → ∀ (H : Heap) (locs : List Loc) (ls : Array Slot), va_P (xsD X) vwCl (wM X mThrown mWorld mImage mDraft mEarlier mRemembered mHasImage mIsLaid mOne mTwo mShare mX mY mD mEventX mEventY mEventD mEvents mCrossingOf mBundle mEventOf mDegree mFrom mTo mCrossings mEdges mMet mUpper mLower mTape mTaped mPoint mEnd mBegin mFaultAt mFive mTold mActs mFar mViews mHullX mHullY mEndX mEndY mHeightUp mHeightLow mMeets mMeetsOf Rw) H → va_D (xsF X) (wM X mThrown mWorld mImage mDraft mEarlier mRemembered mHasImage mIsLaid mOne mTwo mShare mX mY mD mEventX mEventY mEventD mEvents mCrossingOf mBundle mEventOf mDegree mFrom mTo mCrossings mEdges mMet mUpper mLower mTape mTaped mPoint mEnd mBegin mFaultAt mFive mTold mActs mFar mViews mHullX mHullY mEndX mEndY mHeightUp mHeightLow mMeets mMeetsOf Rw) → va_S (xsF X) s.heap H locs → lv_has ls 4 [(0, .ref (xsA X 100)), (1, .int a0), (2, .int sg.1), (3, .int sg.2)] → W p l e { frames := 1, cells := 0, slots := 0, locals := 22 } s m ([.ref (xsA X 100), .int a0] : List Value).toArray below meth c H locs 0 0 (MQ below Qq ([.ref (xsA X 100), .int a0] : List Value).toArray s 0 0 (xsF X)) (F0 m 4 ls [])) := by
    refine xsWh_ind ?_
    intro sg r3 u3 hf ih3 hx3 hk3 H locs ls hP hD hS hl
    obtain ⟨y1, y2⟩ := sg
    replace hf : fX11_tintsOf_L4 mWorld a0 y1 y2 = some u3 := hf
    replace hl : lv_has ls 4 [(0, .ref (xsA X 100)), (1, .int a0), (2, .int y1), (3, .int y2)] := hl
    replace hP : va_P (xsD X) vwCl (wM X mThrown mWorld mImage mDraft mEarlier mRemembered mHasImage mIsLaid mOne mTwo mShare mX mY mD mEventX mEventY mEventD mEvents mCrossingOf mBundle mEventOf mDegree mFrom mTo mCrossings mEdges mMet mUpper mLower mTape mTaped mPoint mEnd mBegin mFaultAt mFive mTold mActs mFar mViews mHullX mHullY mEndX mEndY mHeightUp mHeightLow mMeets mMeetsOf Rw) H := hP
    replace hD : va_D (xsF X) (wM X mThrown mWorld mImage mDraft mEarlier mRemembered mHasImage mIsLaid mOne mTwo mShare mX mY mD mEventX mEventY mEventD mEvents mCrossingOf mBundle mEventOf mDegree mFrom mTo mCrossings mEdges mMet mUpper mLower mTape mTaped mPoint mEnd mBegin mFaultAt mFive mTold mActs mFar mViews mHullX mHullY mEndX mEndY mHeightUp mHeightLow mMeets mMeetsOf Rw) := hD
    unfold fX11_tintsOf_L4 at hf
    refine lv_iload_n hx hb dX11_tintsOf_4 rfl (lv_at hl 3 rfl) ?_
    refine lv_aload_n hx hb dX11_tintsOf_5 rfl (lv_at hl 0 rfl) ?_
    replace hf := xsBd_use hf
    obtain ⟨o5, h6, hf⟩ := hf
    refine xs_calli hS (xs_runV (As := []) C (mX11_many l  h6) w_1581 w_1583 w_44 w_115 w_1584 hd_X11_many ⟨rfl, rfl, Nat.le_of_ble_eq_true rfl, Nat.le_of_ble_eq_true rfl, Nat.zero_le _, Nat.zero_le _⟩ hP hD hS lk_X11 rfl hl.1 rfl (Nat.le_of_ble_eq_true rfl) dX11_tintsOf_6) (fun H locs hP hD hS => ?_)
    refine lv_icmp_ge (tgt := 41) hx hb dX11_tintsOf_9 (by decide) (fun c18 => ?_) (fun c18 => ?_)
    · replace hf := xsBr_t c18 hf
      have ez := hx3 _ (Option.some.inj hf).symm
      subst ez
      exact K3 y1 hk3 H locs ls hP hD hS (lv_sub hl [2] rfl)
    · replace hf := xsBr_f c18 hf
      refine lv_iload_n hx hb dX11_tintsOf_12 rfl (lv_at hl 2 rfl) ?_
      refine lv_iload_n hx hb dX11_tintsOf_13 rfl (lv_at hl 1 rfl) ?_
      refine lv_iload_n hx hb dX11_tintsOf_14 rfl (lv_at hl 3 rfl) ?_
      replace hf := xsBd_use hf
      obtain ⟨o7, h8, hf⟩ := hf
      refine xs_calli hS (xs_runS (As := [.int a0, .int y2]) C (mX11_holds l  h8) w_1700 w_1701 w_115 w_1702 hd_X11_holds ⟨rfl, rfl, Nat.le_of_ble_eq_true rfl, Nat.le_of_ble_eq_true rfl, Nat.zero_le _, Nat.zero_le _⟩ hP hD hS hl.1 rfl (Nat.le_of_ble_eq_true rfl) dX11_tintsOf_15) (fun H locs hP hD hS => ?_)
      have K14 : ∀ (y9 : Int32) (hf : fX11_tintsOf_J33 y1 y2 y9 = some u3) (H : Heap) (locs : List Loc) (ls : Array Slot), va_P (xsD X) vwCl (wM X mThrown mWorld mImage mDraft mEarlier mRemembered mHasImage mIsLaid mOne mTwo mShare mX mY mD mEventX mEventY mEventD mEvents mCrossingOf mBundle mEventOf mDegree mFrom mTo mCrossings mEdges mMet mUpper mLower mTape mTaped mPoint mEnd mBegin mFaultAt mFive mTold mActs mFar mViews mHullX mHullY mEndX mEndY mHeightUp mHeightLow mMeets mMeetsOf Rw) H → va_D (xsF X) (wM X mThrown mWorld mImage mDraft mEarlier mRemembered mHasImage mIsLaid mOne mTwo mShare mX mY mD mEventX mEventY mEventD mEvents mCrossingOf mBundle mEventOf mDegree mFrom mTo mCrossings mEdges mMet mUpper mLower mTape mTaped mPoint mEnd mBegin mFaultAt mFive mTold mActs mFar mViews mHullX mHullY mEndX mEndY mHeightUp mHeightLow mMeets mMeetsOf Rw) → va_S (xsF X) s.heap H locs → lv_has ls 4 [(0, .ref (xsA X 100)), (1, .int a0), (3, .int y2)] → W p l e { frames := 1, cells := 0, slots := 0, locals := 22 } s m ([.ref (xsA X 100), .int a0] : List Value).toArray below meth c H locs 0 0 (MQ below Qq ([.ref (xsA X 100), .int a0] : List Value).toArray s 0 0 (xsF X)) (F0 m 33 ls [.int y9, .int y1]) := by
        intro y9 hf H locs ls hP hD hS hl
        unfold fX11_tintsOf_J33 at hf
        refine lv_ior hx hb dX11_tintsOf_33 ?_
        refine lv_topi (fun x10 ex10 => ?_)
        replace hf := xsLt_use ex10 hf
        refine lv_istore_n (lv' := [(2, .int x10), (0, .ref (xsA X 100)), (1, .int a0), (3, .int y2)]) hx hb dX11_tintsOf_34 rfl hl (by decide) rfl (fun ls hl => ?_)
        obtain ⟨x11, ex11⟩ : ∃ y : Int32, y = y2 + (1 : Int32) := ⟨_, rfl⟩
        replace hf := xsLt_use ex11 hf
        refine lv_iinc (v := x11) (lv' := [(3, .int x11), (2, .int x10), (0, .ref (xsA X 100)), (1, .int a0)]) hx hb dX11_tintsOf_35 hl (k := 3) rfl (by rw [ex11]; rfl) (by decide) rfl (fun ls hl => ?_)
        refine lv_goto (tgt := 4) hx hb dX11_tintsOf_38 (by decide) ?_
        exact ih3 _ (Option.some.inj hf).symm hk3 H locs ls hP hD hS (lv_sub hl [2, 3, 1, 0] rfl)
      replace hf := xsBd_use hf
      obtain ⟨v12, hf, hk13⟩ := hf
      refine lv_if_eq (tgt := 32) hx hb dX11_tintsOf_18 (by decide) (fun c17 => ?_) (fun c17 => ?_)
      · replace hf := xsBr_t c17 hf
        refine lv_iconst (v := (0 : Int32)) hx hb dX11_tintsOf_32 (by decide) ?_
        have ev := Option.some.inj hf
        subst ev
        exact K14 (0 : Int32) hk13 H locs ls hP hD hS (lv_sub hl [0, 1, 3] rfl)
      · replace hf := xsBr_f c17 hf
        refine lv_iconst (v := (1 : Int32)) hx hb dX11_tintsOf_21 (by decide) ?_
        refine lv_aload_n hx hb dX11_tintsOf_22 rfl (lv_at hl 0 rfl) ?_
        refine lv_iload_n hx hb dX11_tintsOf_23 rfl (lv_at hl 3 rfl) ?_
        refine lv_iconst (v := (4 : Int32)) hx hb dX11_tintsOf_24 (by decide) ?_
        replace hf := xsBd_use hf
        obtain ⟨o15, h16, hf⟩ := hf
        refine xs_calli hS (xs_runV (As := [.int y2, .int (4 : Int32)]) C (mX11_of l  h16) w_1608 w_1610 w_50 w_115 w_1611 hd_X11_of ⟨rfl, rfl, Nat.le_of_ble_eq_true rfl, Nat.le_of_ble_eq_true rfl, Nat.zero_le _, Nat.zero_le _⟩ hP hD hS lk_X11 rfl hl.1 rfl (Nat.le_of_ble_eq_true rfl) dX11_tintsOf_25) (fun H locs hP hD hS => ?_)
        refine lv_ishl hx hb dX11_tintsOf_28 ?_
        refine lv_goto (tgt := 33) hx hb dX11_tintsOf_29 (by decide) ?_
        have ev := Option.some.inj hf
        subst ev
        exact K14 ((1 : Int32) <<< (o15 &&& 31)) hk13 H locs ls hP hD hS (lv_sub hl [0, 1, 3] rfl)
  exact L3 ((0 : Int32), (0 : Int32)) r3 hk30 hf H locs ls hP hD hS (lv_sub hl [2, 3, 1, 0] rfl)
set_option maxRecDepth 100000 in
set_option maxHeartbeats 8000000 in
theorem mX11_noCrossing (l : Launch) {X : xsX} {mThrown mRemembered mHasImage mIsLaid mEvents mCrossings mEdges mTaped mPoint mEnd mBegin mFaultAt mActs : Int32} {mWorld mImage mDraft mEarlier mOne mTwo mShare mCrossingOf mBundle mEventOf mDegree mFrom mTo mMet mTape mFive mTold mFar mViews mHullX mHullY mEndX mEndY mMeets mMeetsOf : Nat → Int32} {mX mY mD mHeightUp mHeightLow : Int64} {mEventX mEventY mEventD mUpper mLower : Nat → Int64} {Rw : va_W} {a0 : Int32} {out : Int32 × Int32 × Int32 × (Nat → Int32) × (Nat → Int32) × (Nat → Int32) × Int64 × Int64 × Int64 × (Nat → Int64) × (Nat → Int64) × (Nat → Int64) × Int32 × (Nat → Int32) × (Nat → Int32) × (Nat → Int32) × (Nat → Int32) × (Nat → Int32) × (Nat → Int32) × Int32 × Int32} (hf : fX11_noCrossing mThrown mWorld mIsLaid mOne mTwo mShare mX mY mD mEventX mEventY mEventD mEvents mCrossingOf mBundle mEventOf mDegree mFrom mTo mCrossings mEdges a0 = some out) : Met l yX11_noCrossing (xsWs yX11_noCrossing cX11_noCrossing 2 (some .boolean)) { frames := 6, cells := 0, slots := 0, locals := 164 } (xsP X (wM X mThrown mWorld mImage mDraft mEarlier mRemembered mHasImage mIsLaid mOne mTwo mShare mX mY mD mEventX mEventY mEventD mEvents mCrossingOf mBundle mEventOf mDegree mFrom mTo mCrossings mEdges mMet mUpper mLower mTape mTaped mPoint mEnd mBegin mFaultAt mFive mTold mActs mFar mViews mHullX mHullY mEndX mEndY mHeightUp mHeightLow mMeets mMeetsOf Rw) [.ref (xsA X 100), .int a0]) (xsQi X out.1 (wM X out.2.1 mWorld mImage mDraft mEarlier mRemembered mHasImage out.2.2.1 out.2.2.2.1 out.2.2.2.2.1 out.2.2.2.2.2.1 out.2.2.2.2.2.2.1 out.2.2.2.2.2.2.2.1 out.2.2.2.2.2.2.2.2.1 out.2.2.2.2.2.2.2.2.2.1 out.2.2.2.2.2.2.2.2.2.2.1 out.2.2.2.2.2.2.2.2.2.2.2.1 out.2.2.2.2.2.2.2.2.2.2.2.2.1 out.2.2.2.2.2.2.2.2.2.2.2.2.2.1 out.2.2.2.2.2.2.2.2.2.2.2.2.2.2.1 out.2.2.2.2.2.2.2.2.2.2.2.2.2.2.2.1 out.2.2.2.2.2.2.2.2.2.2.2.2.2.2.2.2.1 out.2.2.2.2.2.2.2.2.2.2.2.2.2.2.2.2.2.1 out.2.2.2.2.2.2.2.2.2.2.2.2.2.2.2.2.2.2.1 out.2.2.2.2.2.2.2.2.2.2.2.2.2.2.2.2.2.2.2.1 out.2.2.2.2.2.2.2.2.2.2.2.2.2.2.2.2.2.2.2.2 mMet mUpper mLower mTape mTaped mPoint mEnd mBegin mFaultAt mFive mTold mActs mFar mViews mHullX mHullY mEndX mEndY mHeightUp mHeightLow mMeets mMeetsOf Rw)) 0 0 (xsF X) := by
  refine xs_meth RX11 (by decide) rfl (Nat.le_of_ble_eq_true rfl) ?_
  intro p e s m below meth c ls H locs C hP hD hS hr hlk hl
  have hx := C.1
  have hb := C.2.1
  have hl : lv_has ls 2 [(0, .ref (xsA X 100)), (1, .int a0)] := hl
  obtain ⟨Qq, hQq⟩ : ∃ Qq, Qq = xsQi X out.1 (wM X out.2.1 mWorld mImage mDraft mEarlier mRemembered mHasImage out.2.2.1 out.2.2.2.1 out.2.2.2.2.1 out.2.2.2.2.2.1 out.2.2.2.2.2.2.1 out.2.2.2.2.2.2.2.1 out.2.2.2.2.2.2.2.2.1 out.2.2.2.2.2.2.2.2.2.1 out.2.2.2.2.2.2.2.2.2.2.1 out.2.2.2.2.2.2.2.2.2.2.2.1 out.2.2.2.2.2.2.2.2.2.2.2.2.1 out.2.2.2.2.2.2.2.2.2.2.2.2.2.1 out.2.2.2.2.2.2.2.2.2.2.2.2.2.2.1 out.2.2.2.2.2.2.2.2.2.2.2.2.2.2.2.1 out.2.2.2.2.2.2.2.2.2.2.2.2.2.2.2.2.1 out.2.2.2.2.2.2.2.2.2.2.2.2.2.2.2.2.2.1 out.2.2.2.2.2.2.2.2.2.2.2.2.2.2.2.2.2.2.1 out.2.2.2.2.2.2.2.2.2.2.2.2.2.2.2.2.2.2.2.1 out.2.2.2.2.2.2.2.2.2.2.2.2.2.2.2.2.2.2.2.2 mMet mUpper mLower mTape mTaped mPoint mEnd mBegin mFaultAt mFive mTold mActs mFar mViews mHullX mHullY mEndX mEndY mHeightUp mHeightLow mMeets mMeetsOf Rw) := ⟨_, rfl⟩
  rw [← hQq]
  unfold fX11_noCrossing at hf
  refine lv_aload_n hx hb dX11_noCrossing_0 rfl (lv_at hl 0 rfl) ?_
  refine lv_iconst (v := (0 : Int32)) hx hb dX11_noCrossing_1 (by decide) ?_
  refine xp_X11_3 C hP hD hS dX11_noCrossing_2 (fun H locs hP hD hS => ?_)
  refine lv_aload_n hx hb dX11_noCrossing_5 rfl (lv_at hl 0 rfl) ?_
  replace hf := xsBd_use hf
  obtain ⟨o1, h2, hf⟩ := hf
  refine xs_callv hS (xs_runV (As := []) C (mX11_lays l  h2) w_1646 w_1648 w_56 w_115 w_1649 hd_X11_lays ⟨rfl, rfl, Nat.le_of_ble_eq_true rfl, Nat.le_of_ble_eq_true rfl, Nat.zero_le _, Nat.zero_le _⟩ hP hD hS lk_X11 rfl hl.1 rfl (Nat.le_of_ble_eq_true rfl) dX11_noCrossing_6) (fun H locs hP hD hS => ?_)
  refine lv_aload_n hx hb dX11_noCrossing_9 rfl (lv_at hl 0 rfl) ?_
  refine lv_iload_n hx hb dX11_noCrossing_10 rfl (lv_at hl 1 rfl) ?_
  refine lv_i2l hx hb dX11_noCrossing_11 rfl ?_
  refine lv_lconst (v := (0 : Int64)) hx hb dX11_noCrossing_12 (by decide) ?_
  refine lv_aload_n hx hb dX11_noCrossing_13 rfl (lv_at hl 0 rfl) ?_
  refine xg_X11_206 C hP dX11_noCrossing_14 ?_
  refine lv_iconst (v := (1 : Int32)) hx hb dX11_noCrossing_17 (by decide) ?_
  refine lv_isub hx hb dX11_noCrossing_18 ?_
  refine lv_i2l hx hb dX11_noCrossing_19 rfl ?_
  replace hf := xsBd_use hf
  obtain ⟨o3, h4, hf⟩ := hf
  refine xs_calli hS (xs_runS (As := [.long a0.toInt64, .long (0 : Int64), .long (o1.2.2.2.2.2.2.2.2.2.2.2.2.2.2.2.2.2.1 - (1 : Int32)).toInt64]) C (mX11_in l  h4) w_1573 w_1574 w_115 w_1575 hd_X11_in ⟨rfl, rfl, Nat.le_of_ble_eq_true rfl, Nat.le_of_ble_eq_true rfl, Nat.zero_le _, Nat.zero_le _⟩ hP hD hS hl.1 rfl (Nat.le_of_ble_eq_true rfl) dX11_noCrossing_20) (fun H locs hP hD hS => ?_)
  have K11 : ∀ (y5 : Int32) (hf : fX11_noCrossing_J31 o1 y5 = some out) (H : Heap) (locs : List Loc) (ls : Array Slot), va_P (xsD X) vwCl (wM X (0 : Int32) mWorld mImage mDraft mEarlier mRemembered mHasImage o1.1 o1.2.1 o1.2.2.1 o1.2.2.2.1 o1.2.2.2.2.1 o1.2.2.2.2.2.1 o1.2.2.2.2.2.2.1 o1.2.2.2.2.2.2.2.1 o1.2.2.2.2.2.2.2.2.1 o1.2.2.2.2.2.2.2.2.2.1 o1.2.2.2.2.2.2.2.2.2.2.1 o1.2.2.2.2.2.2.2.2.2.2.2.1 o1.2.2.2.2.2.2.2.2.2.2.2.2.1 o1.2.2.2.2.2.2.2.2.2.2.2.2.2.1 o1.2.2.2.2.2.2.2.2.2.2.2.2.2.2.1 o1.2.2.2.2.2.2.2.2.2.2.2.2.2.2.2.1 o1.2.2.2.2.2.2.2.2.2.2.2.2.2.2.2.2.1 o1.2.2.2.2.2.2.2.2.2.2.2.2.2.2.2.2.2.1 o1.2.2.2.2.2.2.2.2.2.2.2.2.2.2.2.2.2.2 mMet mUpper mLower mTape mTaped mPoint mEnd mBegin mFaultAt mFive mTold mActs mFar mViews mHullX mHullY mEndX mEndY mHeightUp mHeightLow mMeets mMeetsOf Rw) H → va_D (xsF X) (wM X (0 : Int32) mWorld mImage mDraft mEarlier mRemembered mHasImage o1.1 o1.2.1 o1.2.2.1 o1.2.2.2.1 o1.2.2.2.2.1 o1.2.2.2.2.2.1 o1.2.2.2.2.2.2.1 o1.2.2.2.2.2.2.2.1 o1.2.2.2.2.2.2.2.2.1 o1.2.2.2.2.2.2.2.2.2.1 o1.2.2.2.2.2.2.2.2.2.2.1 o1.2.2.2.2.2.2.2.2.2.2.2.1 o1.2.2.2.2.2.2.2.2.2.2.2.2.1 o1.2.2.2.2.2.2.2.2.2.2.2.2.2.1 o1.2.2.2.2.2.2.2.2.2.2.2.2.2.2.1 o1.2.2.2.2.2.2.2.2.2.2.2.2.2.2.2.1 o1.2.2.2.2.2.2.2.2.2.2.2.2.2.2.2.2.1 o1.2.2.2.2.2.2.2.2.2.2.2.2.2.2.2.2.2.1 o1.2.2.2.2.2.2.2.2.2.2.2.2.2.2.2.2.2.2 mMet mUpper mLower mTape mTaped mPoint mEnd mBegin mFaultAt mFive mTold mActs mFar mViews mHullX mHullY mEndX mEndY mHeightUp mHeightLow mMeets mMeetsOf Rw) → va_S (xsF X) s.heap H locs → lv_has ls 2 [] → W p l e { frames := 6, cells := 0, slots := 0, locals := 164 } s m ([.ref (xsA X 100), .int a0] : List Value).toArray below meth c H locs 0 0 (MQ below Qq ([.ref (xsA X 100), .int a0] : List Value).toArray s 0 0 (xsF X)) (F0 m 31 ls [.int y5, .ref (xsA X 100)]) := by
    intro y5 hf H locs ls hP hD hS hl
    unfold fX11_noCrossing_J31 at hf
    refine lv_iconst (v := (1 : Int32)) hx hb dX11_noCrossing_31 (by decide) ?_
    replace hf := xsBd_use hf
    obtain ⟨o6, h7, hf⟩ := hf
    refine xs_calli hS (xs_runV (As := [.int y5, .int (1 : Int32)]) C (mX11_throwsIf l  h7) w_1502 w_1504 w_33 w_115 w_1505 hd_X11_throwsIf ⟨rfl, rfl, Nat.le_of_ble_eq_true rfl, Nat.le_of_ble_eq_true rfl, Nat.zero_le _, Nat.zero_le _⟩ hP hD hS lk_X11 rfl hl.1 rfl (Nat.le_of_ble_eq_true rfl) dX11_noCrossing_32) (fun H locs hP hD hS => ?_)
    replace hf := xsCk_use hf
    obtain ⟨h8, hf⟩ := hf
    have ho := Option.some.inj hf
    subst ho
    rw [hQq]
    exact xs_zret C hr hlk h8 hP hD hS dX11_noCrossing_35
  replace hf := xsBd_use hf
  obtain ⟨v9, hf, hk10⟩ := hf
  refine lv_if_ne (tgt := 30) hx hb dX11_noCrossing_23 (by decide) (fun c12 => ?_) (fun c12 => ?_)
  · replace hf := xsBr_f c12 hf
    refine lv_iconst (v := (0 : Int32)) hx hb dX11_noCrossing_30 (by decide) ?_
    have ev := Option.some.inj hf
    subst ev
    exact K11 (0 : Int32) hk10 H locs ls hP hD hS (lv_sub hl [] rfl)
  · replace hf := xsBr_t c12 hf
    refine lv_iconst (v := (1 : Int32)) hx hb dX11_noCrossing_26 (by decide) ?_
    refine lv_goto (tgt := 31) hx hb dX11_noCrossing_27 (by decide) ?_
    have ev := Option.some.inj hf
    subst ev
    exact K11 (1 : Int32) hk10 H locs ls hP hD hS (lv_sub hl [] rfl)
set_option maxRecDepth 100000 in
set_option maxHeartbeats 8000000 in
theorem mX11_noEvent (l : Launch) {X : xsX} {mThrown mRemembered mHasImage mIsLaid mEvents mCrossings mEdges mTaped mPoint mEnd mBegin mFaultAt mActs : Int32} {mWorld mImage mDraft mEarlier mOne mTwo mShare mCrossingOf mBundle mEventOf mDegree mFrom mTo mMet mTape mFive mTold mFar mViews mHullX mHullY mEndX mEndY mMeets mMeetsOf : Nat → Int32} {mX mY mD mHeightUp mHeightLow : Int64} {mEventX mEventY mEventD mUpper mLower : Nat → Int64} {Rw : va_W} {a0 : Int32} {out : Int32 × Int32 × Int32 × (Nat → Int32) × (Nat → Int32) × (Nat → Int32) × Int64 × Int64 × Int64 × (Nat → Int64) × (Nat → Int64) × (Nat → Int64) × Int32 × (Nat → Int32) × (Nat → Int32) × (Nat → Int32) × (Nat → Int32) × (Nat → Int32) × (Nat → Int32) × Int32 × Int32} (hf : fX11_noEvent mThrown mWorld mIsLaid mOne mTwo mShare mX mY mD mEventX mEventY mEventD mEvents mCrossingOf mBundle mEventOf mDegree mFrom mTo mCrossings mEdges a0 = some out) : Met l yX11_noEvent (xsWs yX11_noEvent cX11_noEvent 2 (some .boolean)) { frames := 6, cells := 0, slots := 0, locals := 164 } (xsP X (wM X mThrown mWorld mImage mDraft mEarlier mRemembered mHasImage mIsLaid mOne mTwo mShare mX mY mD mEventX mEventY mEventD mEvents mCrossingOf mBundle mEventOf mDegree mFrom mTo mCrossings mEdges mMet mUpper mLower mTape mTaped mPoint mEnd mBegin mFaultAt mFive mTold mActs mFar mViews mHullX mHullY mEndX mEndY mHeightUp mHeightLow mMeets mMeetsOf Rw) [.ref (xsA X 100), .int a0]) (xsQi X out.1 (wM X out.2.1 mWorld mImage mDraft mEarlier mRemembered mHasImage out.2.2.1 out.2.2.2.1 out.2.2.2.2.1 out.2.2.2.2.2.1 out.2.2.2.2.2.2.1 out.2.2.2.2.2.2.2.1 out.2.2.2.2.2.2.2.2.1 out.2.2.2.2.2.2.2.2.2.1 out.2.2.2.2.2.2.2.2.2.2.1 out.2.2.2.2.2.2.2.2.2.2.2.1 out.2.2.2.2.2.2.2.2.2.2.2.2.1 out.2.2.2.2.2.2.2.2.2.2.2.2.2.1 out.2.2.2.2.2.2.2.2.2.2.2.2.2.2.1 out.2.2.2.2.2.2.2.2.2.2.2.2.2.2.2.1 out.2.2.2.2.2.2.2.2.2.2.2.2.2.2.2.2.1 out.2.2.2.2.2.2.2.2.2.2.2.2.2.2.2.2.2.1 out.2.2.2.2.2.2.2.2.2.2.2.2.2.2.2.2.2.2.1 out.2.2.2.2.2.2.2.2.2.2.2.2.2.2.2.2.2.2.2.1 out.2.2.2.2.2.2.2.2.2.2.2.2.2.2.2.2.2.2.2.2 mMet mUpper mLower mTape mTaped mPoint mEnd mBegin mFaultAt mFive mTold mActs mFar mViews mHullX mHullY mEndX mEndY mHeightUp mHeightLow mMeets mMeetsOf Rw)) 0 0 (xsF X) := by
  refine xs_meth RX11 (by decide) rfl (Nat.le_of_ble_eq_true rfl) ?_
  intro p e s m below meth c ls H locs C hP hD hS hr hlk hl
  have hx := C.1
  have hb := C.2.1
  have hl : lv_has ls 2 [(0, .ref (xsA X 100)), (1, .int a0)] := hl
  obtain ⟨Qq, hQq⟩ : ∃ Qq, Qq = xsQi X out.1 (wM X out.2.1 mWorld mImage mDraft mEarlier mRemembered mHasImage out.2.2.1 out.2.2.2.1 out.2.2.2.2.1 out.2.2.2.2.2.1 out.2.2.2.2.2.2.1 out.2.2.2.2.2.2.2.1 out.2.2.2.2.2.2.2.2.1 out.2.2.2.2.2.2.2.2.2.1 out.2.2.2.2.2.2.2.2.2.2.1 out.2.2.2.2.2.2.2.2.2.2.2.1 out.2.2.2.2.2.2.2.2.2.2.2.2.1 out.2.2.2.2.2.2.2.2.2.2.2.2.2.1 out.2.2.2.2.2.2.2.2.2.2.2.2.2.2.1 out.2.2.2.2.2.2.2.2.2.2.2.2.2.2.2.1 out.2.2.2.2.2.2.2.2.2.2.2.2.2.2.2.2.1 out.2.2.2.2.2.2.2.2.2.2.2.2.2.2.2.2.2.1 out.2.2.2.2.2.2.2.2.2.2.2.2.2.2.2.2.2.2.1 out.2.2.2.2.2.2.2.2.2.2.2.2.2.2.2.2.2.2.2.1 out.2.2.2.2.2.2.2.2.2.2.2.2.2.2.2.2.2.2.2.2 mMet mUpper mLower mTape mTaped mPoint mEnd mBegin mFaultAt mFive mTold mActs mFar mViews mHullX mHullY mEndX mEndY mHeightUp mHeightLow mMeets mMeetsOf Rw) := ⟨_, rfl⟩
  rw [← hQq]
  unfold fX11_noEvent at hf
  refine lv_aload_n hx hb dX11_noEvent_0 rfl (lv_at hl 0 rfl) ?_
  refine lv_iconst (v := (0 : Int32)) hx hb dX11_noEvent_1 (by decide) ?_
  refine xp_X11_3 C hP hD hS dX11_noEvent_2 (fun H locs hP hD hS => ?_)
  refine lv_aload_n hx hb dX11_noEvent_5 rfl (lv_at hl 0 rfl) ?_
  replace hf := xsBd_use hf
  obtain ⟨o1, h2, hf⟩ := hf
  refine xs_callv hS (xs_runV (As := []) C (mX11_lays l  h2) w_1646 w_1648 w_56 w_115 w_1649 hd_X11_lays ⟨rfl, rfl, Nat.le_of_ble_eq_true rfl, Nat.le_of_ble_eq_true rfl, Nat.zero_le _, Nat.zero_le _⟩ hP hD hS lk_X11 rfl hl.1 rfl (Nat.le_of_ble_eq_true rfl) dX11_noEvent_6) (fun H locs hP hD hS => ?_)
  refine lv_aload_n hx hb dX11_noEvent_9 rfl (lv_at hl 0 rfl) ?_
  refine lv_iload_n hx hb dX11_noEvent_10 rfl (lv_at hl 1 rfl) ?_
  refine lv_i2l hx hb dX11_noEvent_11 rfl ?_
  refine lv_lconst (v := (0 : Int64)) hx hb dX11_noEvent_12 (by decide) ?_
  refine lv_aload_n hx hb dX11_noEvent_13 rfl (lv_at hl 0 rfl) ?_
  refine xg_X11_193 C hP dX11_noEvent_14 ?_
  refine lv_iconst (v := (1 : Int32)) hx hb dX11_noEvent_17 (by decide) ?_
  refine lv_isub hx hb dX11_noEvent_18 ?_
  refine lv_i2l hx hb dX11_noEvent_19 rfl ?_
  replace hf := xsBd_use hf
  obtain ⟨o3, h4, hf⟩ := hf
  refine xs_calli hS (xs_runS (As := [.long a0.toInt64, .long (0 : Int64), .long (o1.2.2.2.2.2.2.2.2.2.2.1 - (1 : Int32)).toInt64]) C (mX11_in l  h4) w_1573 w_1574 w_115 w_1575 hd_X11_in ⟨rfl, rfl, Nat.le_of_ble_eq_true rfl, Nat.le_of_ble_eq_true rfl, Nat.zero_le _, Nat.zero_le _⟩ hP hD hS hl.1 rfl (Nat.le_of_ble_eq_true rfl) dX11_noEvent_20) (fun H locs hP hD hS => ?_)
  have K11 : ∀ (y5 : Int32) (hf : fX11_noEvent_J31 o1 y5 = some out) (H : Heap) (locs : List Loc) (ls : Array Slot), va_P (xsD X) vwCl (wM X (0 : Int32) mWorld mImage mDraft mEarlier mRemembered mHasImage o1.1 o1.2.1 o1.2.2.1 o1.2.2.2.1 o1.2.2.2.2.1 o1.2.2.2.2.2.1 o1.2.2.2.2.2.2.1 o1.2.2.2.2.2.2.2.1 o1.2.2.2.2.2.2.2.2.1 o1.2.2.2.2.2.2.2.2.2.1 o1.2.2.2.2.2.2.2.2.2.2.1 o1.2.2.2.2.2.2.2.2.2.2.2.1 o1.2.2.2.2.2.2.2.2.2.2.2.2.1 o1.2.2.2.2.2.2.2.2.2.2.2.2.2.1 o1.2.2.2.2.2.2.2.2.2.2.2.2.2.2.1 o1.2.2.2.2.2.2.2.2.2.2.2.2.2.2.2.1 o1.2.2.2.2.2.2.2.2.2.2.2.2.2.2.2.2.1 o1.2.2.2.2.2.2.2.2.2.2.2.2.2.2.2.2.2.1 o1.2.2.2.2.2.2.2.2.2.2.2.2.2.2.2.2.2.2 mMet mUpper mLower mTape mTaped mPoint mEnd mBegin mFaultAt mFive mTold mActs mFar mViews mHullX mHullY mEndX mEndY mHeightUp mHeightLow mMeets mMeetsOf Rw) H → va_D (xsF X) (wM X (0 : Int32) mWorld mImage mDraft mEarlier mRemembered mHasImage o1.1 o1.2.1 o1.2.2.1 o1.2.2.2.1 o1.2.2.2.2.1 o1.2.2.2.2.2.1 o1.2.2.2.2.2.2.1 o1.2.2.2.2.2.2.2.1 o1.2.2.2.2.2.2.2.2.1 o1.2.2.2.2.2.2.2.2.2.1 o1.2.2.2.2.2.2.2.2.2.2.1 o1.2.2.2.2.2.2.2.2.2.2.2.1 o1.2.2.2.2.2.2.2.2.2.2.2.2.1 o1.2.2.2.2.2.2.2.2.2.2.2.2.2.1 o1.2.2.2.2.2.2.2.2.2.2.2.2.2.2.1 o1.2.2.2.2.2.2.2.2.2.2.2.2.2.2.2.1 o1.2.2.2.2.2.2.2.2.2.2.2.2.2.2.2.2.1 o1.2.2.2.2.2.2.2.2.2.2.2.2.2.2.2.2.2.1 o1.2.2.2.2.2.2.2.2.2.2.2.2.2.2.2.2.2.2 mMet mUpper mLower mTape mTaped mPoint mEnd mBegin mFaultAt mFive mTold mActs mFar mViews mHullX mHullY mEndX mEndY mHeightUp mHeightLow mMeets mMeetsOf Rw) → va_S (xsF X) s.heap H locs → lv_has ls 2 [] → W p l e { frames := 6, cells := 0, slots := 0, locals := 164 } s m ([.ref (xsA X 100), .int a0] : List Value).toArray below meth c H locs 0 0 (MQ below Qq ([.ref (xsA X 100), .int a0] : List Value).toArray s 0 0 (xsF X)) (F0 m 31 ls [.int y5, .ref (xsA X 100)]) := by
    intro y5 hf H locs ls hP hD hS hl
    unfold fX11_noEvent_J31 at hf
    refine lv_iconst (v := (1 : Int32)) hx hb dX11_noEvent_31 (by decide) ?_
    replace hf := xsBd_use hf
    obtain ⟨o6, h7, hf⟩ := hf
    refine xs_calli hS (xs_runV (As := [.int y5, .int (1 : Int32)]) C (mX11_throwsIf l  h7) w_1502 w_1504 w_33 w_115 w_1505 hd_X11_throwsIf ⟨rfl, rfl, Nat.le_of_ble_eq_true rfl, Nat.le_of_ble_eq_true rfl, Nat.zero_le _, Nat.zero_le _⟩ hP hD hS lk_X11 rfl hl.1 rfl (Nat.le_of_ble_eq_true rfl) dX11_noEvent_32) (fun H locs hP hD hS => ?_)
    replace hf := xsCk_use hf
    obtain ⟨h8, hf⟩ := hf
    have ho := Option.some.inj hf
    subst ho
    rw [hQq]
    exact xs_zret C hr hlk h8 hP hD hS dX11_noEvent_35
  replace hf := xsBd_use hf
  obtain ⟨v9, hf, hk10⟩ := hf
  refine lv_if_ne (tgt := 30) hx hb dX11_noEvent_23 (by decide) (fun c12 => ?_) (fun c12 => ?_)
  · replace hf := xsBr_f c12 hf
    refine lv_iconst (v := (0 : Int32)) hx hb dX11_noEvent_30 (by decide) ?_
    have ev := Option.some.inj hf
    subst ev
    exact K11 (0 : Int32) hk10 H locs ls hP hD hS (lv_sub hl [] rfl)
  · replace hf := xsBr_t c12 hf
    refine lv_iconst (v := (1 : Int32)) hx hb dX11_noEvent_26 (by decide) ?_
    refine lv_goto (tgt := 31) hx hb dX11_noEvent_27 (by decide) ?_
    have ev := Option.some.inj hf
    subst ev
    exact K11 (1 : Int32) hk10 H locs ls hP hD hS (lv_sub hl [] rfl)
