set_option maxRecDepth 100000 in
set_option maxHeartbeats 8000000 in
theorem mX11_crossing (l : Launch) {X : xsX} {mThrown mRemembered mHasImage mIsLaid mEvents mCrossings mEdges mTaped mPoint mEnd mBegin mFaultAt mActs : Int32} {mWorld mImage mDraft mEarlier mOne mTwo mShare mCrossingOf mBundle mEventOf mDegree mFrom mTo mMet mTape mFive mTold mFar mViews mHullX mHullY mEndX mEndY mMeets mMeetsOf : Nat → Int32} {mX mY mD mHeightUp mHeightLow : Int64} {mEventX mEventY mEventD mUpper mLower : Nat → Int64} {Rw : va_W} {a0 : Int32} {a1 : Int32} {out : Int64 × Int32 × Int32 × (Nat → Int32) × (Nat → Int32) × (Nat → Int32) × Int64 × Int64 × Int64 × (Nat → Int64) × (Nat → Int64) × (Nat → Int64) × Int32 × (Nat → Int32) × (Nat → Int32) × (Nat → Int32) × (Nat → Int32) × (Nat → Int32) × (Nat → Int32) × Int32 × Int32} (hf : fX11_crossing mThrown mWorld mIsLaid mOne mTwo mShare mX mY mD mEventX mEventY mEventD mEvents mCrossingOf mBundle mEventOf mDegree mFrom mTo mCrossings mEdges a0 a1 = some out) : Met l yX11_crossing (xsWs yX11_crossing cX11_crossing 4 (some .long)) { frames := 7, cells := 0, slots := 0, locals := 185 } (xsP X (wM X mThrown mWorld mImage mDraft mEarlier mRemembered mHasImage mIsLaid mOne mTwo mShare mX mY mD mEventX mEventY mEventD mEvents mCrossingOf mBundle mEventOf mDegree mFrom mTo mCrossings mEdges mMet mUpper mLower mTape mTaped mPoint mEnd mBegin mFaultAt mFive mTold mActs mFar mViews mHullX mHullY mEndX mEndY mHeightUp mHeightLow mMeets mMeetsOf Rw) [.ref (xsA X 100), .int a0, .int a1]) (xsQl X out.1 (wM X out.2.1 mWorld mImage mDraft mEarlier mRemembered mHasImage out.2.2.1 out.2.2.2.1 out.2.2.2.2.1 out.2.2.2.2.2.1 out.2.2.2.2.2.2.1 out.2.2.2.2.2.2.2.1 out.2.2.2.2.2.2.2.2.1 out.2.2.2.2.2.2.2.2.2.1 out.2.2.2.2.2.2.2.2.2.2.1 out.2.2.2.2.2.2.2.2.2.2.2.1 out.2.2.2.2.2.2.2.2.2.2.2.2.1 out.2.2.2.2.2.2.2.2.2.2.2.2.2.1 out.2.2.2.2.2.2.2.2.2.2.2.2.2.2.1 out.2.2.2.2.2.2.2.2.2.2.2.2.2.2.2.1 out.2.2.2.2.2.2.2.2.2.2.2.2.2.2.2.2.1 out.2.2.2.2.2.2.2.2.2.2.2.2.2.2.2.2.2.1 out.2.2.2.2.2.2.2.2.2.2.2.2.2.2.2.2.2.2.1 out.2.2.2.2.2.2.2.2.2.2.2.2.2.2.2.2.2.2.2.1 out.2.2.2.2.2.2.2.2.2.2.2.2.2.2.2.2.2.2.2.2 mMet mUpper mLower mTape mTaped mPoint mEnd mBegin mFaultAt mFive mTold mActs mFar mViews mHullX mHullY mEndX mEndY mHeightUp mHeightLow mMeets mMeetsOf Rw)) 0 0 (xsF X) := by
  refine xs_meth RX11 (by decide) rfl (Nat.le_of_ble_eq_true rfl) ?_
  intro p e s m below meth c ls H locs C hP hD hS hr hlk hl
  have hx := C.1
  have hb := C.2.1
  have hl : lv_has ls 4 [(0, .ref (xsA X 100)), (1, .int a0), (2, .int a1)] := hl
  obtain ⟨Qq, hQq⟩ : ∃ Qq, Qq = xsQl X out.1 (wM X out.2.1 mWorld mImage mDraft mEarlier mRemembered mHasImage out.2.2.1 out.2.2.2.1 out.2.2.2.2.1 out.2.2.2.2.2.1 out.2.2.2.2.2.2.1 out.2.2.2.2.2.2.2.1 out.2.2.2.2.2.2.2.2.1 out.2.2.2.2.2.2.2.2.2.1 out.2.2.2.2.2.2.2.2.2.2.1 out.2.2.2.2.2.2.2.2.2.2.2.1 out.2.2.2.2.2.2.2.2.2.2.2.2.1 out.2.2.2.2.2.2.2.2.2.2.2.2.2.1 out.2.2.2.2.2.2.2.2.2.2.2.2.2.2.1 out.2.2.2.2.2.2.2.2.2.2.2.2.2.2.2.1 out.2.2.2.2.2.2.2.2.2.2.2.2.2.2.2.2.1 out.2.2.2.2.2.2.2.2.2.2.2.2.2.2.2.2.2.1 out.2.2.2.2.2.2.2.2.2.2.2.2.2.2.2.2.2.2.1 out.2.2.2.2.2.2.2.2.2.2.2.2.2.2.2.2.2.2.2.1 out.2.2.2.2.2.2.2.2.2.2.2.2.2.2.2.2.2.2.2.2 mMet mUpper mLower mTape mTaped mPoint mEnd mBegin mFaultAt mFive mTold mActs mFar mViews mHullX mHullY mEndX mEndY mHeightUp mHeightLow mMeets mMeetsOf Rw) := ⟨_, rfl⟩
  rw [← hQq]
  unfold fX11_crossing at hf
  refine lv_aload_n hx hb dX11_crossing_0 rfl (lv_at hl 0 rfl) ?_
  refine lv_iload_n hx hb dX11_crossing_1 rfl (lv_at hl 1 rfl) ?_
  replace hf := xsBd_use hf
  obtain ⟨o1, h2, hf⟩ := hf
  refine xs_calli hS (xs_runV (As := [.int a0]) C (mX11_noCrossing l  h2) w_1778 w_1780 w_74 w_115 w_1781 hd_X11_noCrossing ⟨rfl, rfl, Nat.le_of_ble_eq_true rfl, Nat.le_of_ble_eq_true rfl, Nat.zero_le _, Nat.zero_le _⟩ hP hD hS lk_X11 rfl hl.1 rfl (Nat.le_of_ble_eq_true rfl) dX11_crossing_2) (fun H locs hP hD hS => ?_)
  refine lv_if_ne (tgt := 33) hx hb dX11_crossing_5 (by decide) (fun c28 => ?_) (fun c28 => ?_)
  · replace hf := xsBr_f c28 hf
    refine lv_lconst (v := (0 : Int64)) hx hb dX11_crossing_33 (by decide) ?_
    have ho := Option.some.inj hf
    subst ho
    rw [hQq]
    exact xs_lret C hr hlk hP hD hS dX11_crossing_34
  · replace hf := xsBr_t c28 hf
    refine lv_aload_n hx hb dX11_crossing_8 rfl (lv_at hl 0 rfl) ?_
    refine lv_iload_n hx hb dX11_crossing_9 rfl (lv_at hl 2 rfl) ?_
    refine lv_i2l hx hb dX11_crossing_10 rfl ?_
    refine lv_lconst (v := (0 : Int64)) hx hb dX11_crossing_11 (by decide) ?_
    refine lv_ldc2 (v := (6 : Int64)) hx hb C.2.2.2.1 (xs_kts C _ w_1782) dX11_crossing_12 ?_
    replace hf := xsBd_use hf
    obtain ⟨o3, h4, hf⟩ := hf
    refine xs_calli hS (xs_runS (As := [.long a1.toInt64, .long (0 : Int64), .long (6 : Int64)]) C (mX11_in l  h4) w_1573 w_1574 w_115 w_1575 hd_X11_in ⟨rfl, rfl, Nat.le_of_ble_eq_true rfl, Nat.le_of_ble_eq_true rfl, Nat.zero_le _, Nat.zero_le _⟩ hP hD hS hl.1 rfl (Nat.le_of_ble_eq_true rfl) dX11_crossing_15) (fun H locs hP hD hS => ?_)
    have K26 : ∀ (y5 : Int32) (hf : fX11_crossing_J26 mWorld a0 a1 o1 y5 = some out) (H : Heap) (locs : List Loc) (ls : Array Slot), va_P (xsD X) vwCl (wM X o1.2.1 mWorld mImage mDraft mEarlier mRemembered mHasImage o1.2.2.1 o1.2.2.2.1 o1.2.2.2.2.1 o1.2.2.2.2.2.1 o1.2.2.2.2.2.2.1 o1.2.2.2.2.2.2.2.1 o1.2.2.2.2.2.2.2.2.1 o1.2.2.2.2.2.2.2.2.2.1 o1.2.2.2.2.2.2.2.2.2.2.1 o1.2.2.2.2.2.2.2.2.2.2.2.1 o1.2.2.2.2.2.2.2.2.2.2.2.2.1 o1.2.2.2.2.2.2.2.2.2.2.2.2.2.1 o1.2.2.2.2.2.2.2.2.2.2.2.2.2.2.1 o1.2.2.2.2.2.2.2.2.2.2.2.2.2.2.2.1 o1.2.2.2.2.2.2.2.2.2.2.2.2.2.2.2.2.1 o1.2.2.2.2.2.2.2.2.2.2.2.2.2.2.2.2.2.1 o1.2.2.2.2.2.2.2.2.2.2.2.2.2.2.2.2.2.2.1 o1.2.2.2.2.2.2.2.2.2.2.2.2.2.2.2.2.2.2.2.1 o1.2.2.2.2.2.2.2.2.2.2.2.2.2.2.2.2.2.2.2.2 mMet mUpper mLower mTape mTaped mPoint mEnd mBegin mFaultAt mFive mTold mActs mFar mViews mHullX mHullY mEndX mEndY mHeightUp mHeightLow mMeets mMeetsOf Rw) H → va_D (xsF X) (wM X o1.2.1 mWorld mImage mDraft mEarlier mRemembered mHasImage o1.2.2.1 o1.2.2.2.1 o1.2.2.2.2.1 o1.2.2.2.2.2.1 o1.2.2.2.2.2.2.1 o1.2.2.2.2.2.2.2.1 o1.2.2.2.2.2.2.2.2.1 o1.2.2.2.2.2.2.2.2.2.1 o1.2.2.2.2.2.2.2.2.2.2.1 o1.2.2.2.2.2.2.2.2.2.2.2.1 o1.2.2.2.2.2.2.2.2.2.2.2.2.1 o1.2.2.2.2.2.2.2.2.2.2.2.2.2.1 o1.2.2.2.2.2.2.2.2.2.2.2.2.2.2.1 o1.2.2.2.2.2.2.2.2.2.2.2.2.2.2.2.1 o1.2.2.2.2.2.2.2.2.2.2.2.2.2.2.2.2.1 o1.2.2.2.2.2.2.2.2.2.2.2.2.2.2.2.2.2.1 o1.2.2.2.2.2.2.2.2.2.2.2.2.2.2.2.2.2.2.1 o1.2.2.2.2.2.2.2.2.2.2.2.2.2.2.2.2.2.2.2.1 o1.2.2.2.2.2.2.2.2.2.2.2.2.2.2.2.2.2.2.2.2 mMet mUpper mLower mTape mTaped mPoint mEnd mBegin mFaultAt mFive mTold mActs mFar mViews mHullX mHullY mEndX mEndY mHeightUp mHeightLow mMeets mMeetsOf Rw) → va_S (xsF X) s.heap H locs → lv_has ls 4 [(0, .ref (xsA X 100)), (1, .int a0), (2, .int a1)] → W p l e { frames := 7, cells := 0, slots := 0, locals := 185 } s m ([.ref (xsA X 100), .int a0, .int a1] : List Value).toArray below meth c H locs 0 0 (MQ below Qq ([.ref (xsA X 100), .int a0, .int a1] : List Value).toArray s 0 0 (xsF X)) (F0 m 26 ls [.int y5, .ref (xsA X 100)]) := by
      intro y5 hf H locs ls hP hD hS hl
      unfold fX11_crossing_J26 at hf
      refine lv_iconst (v := (2 : Int32)) hx hb dX11_crossing_26 (by decide) ?_
      replace hf := xsBd_use hf
      obtain ⟨o6, h7, hf⟩ := hf
      refine xs_calli hS (xs_runV (As := [.int y5, .int (2 : Int32)]) C (mX11_throwsIf l  h7) w_1502 w_1504 w_33 w_115 w_1505 hd_X11_throwsIf ⟨rfl, rfl, Nat.le_of_ble_eq_true rfl, Nat.le_of_ble_eq_true rfl, Nat.zero_le _, Nat.zero_le _⟩ hP hD hS lk_X11 rfl hl.1 rfl (Nat.le_of_ble_eq_true rfl) dX11_crossing_27) (fun H locs hP hD hS => ?_)
      refine lv_if_eq (tgt := 35) hx hb dX11_crossing_30 (by decide) (fun c23 => ?_) (fun c23 => ?_)
      · replace hf := xsBr_t c23 hf
        refine lv_aload_n hx hb dX11_crossing_35 rfl (lv_at hl 0 rfl) ?_
        refine xg_X11_51 C hP dX11_crossing_36 ?_
        refine lv_iload_n hx hb dX11_crossing_39 rfl (lv_at hl 1 rfl) ?_
        replace hf := xsCk_use hf
        obtain ⟨h8, hf⟩ := hf
        refine xl_mEventOf C hP h8 dX11_crossing_40 ?_
        refine lv_topi (fun x9 ex9 => ?_)
        replace hf := xsLt_use ex9 hf
        refine lv_istore_n (lv' := [(3, .int x9), (0, .ref (xsA X 100)), (1, .int a0), (2, .int a1)]) hx hb dX11_crossing_41 rfl hl (by decide) rfl (fun ls hl => ?_)
        refine lv_iload_n hx hb dX11_crossing_42 rfl (lv_at hl 3 rfl) ?_
        by_cases c22_0 : a1 = 4
        · replace hf := xsBr_t c22_0 hf
          refine lv_tableIn (tgt := 68) hx hb dX11_crossing_43 (by rw [c22_0]; decide) (by rw [c22_0]; decide) (by rw [c22_0]; rfl) (by decide) ?_
          refine lv_aload_n hx hb dX11_crossing_68 rfl (lv_at hl 1 rfl) ?_
          refine xg_X11_48 C hP dX11_crossing_69 ?_
          refine lv_iload_n hx hb dX11_crossing_72 rfl (lv_at hl 0 rfl) ?_
          replace hf := xsCk_use hf
          obtain ⟨h10, hf⟩ := hf
          refine xl_mBundle C hP h10 dX11_crossing_73 ?_
          replace hf := xsBd_use hf
          obtain ⟨o11, h12, hf⟩ := hf
          refine xs_calli hS (xs_runS (As := [.int (o1.2.2.2.2.2.2.2.2.2.2.2.2.2.2.1 x9.toNatClampNeg)]) C (mX11_bits l  h12) w_1783 w_1784 w_115 w_1785 hd_X11_bits ⟨rfl, rfl, Nat.le_of_ble_eq_true rfl, Nat.le_of_ble_eq_true rfl, Nat.zero_le _, Nat.zero_le _⟩ hP hD hS hl.1 rfl (Nat.le_of_ble_eq_true rfl) dX11_crossing_74) (fun H locs hP hD hS => ?_)
          refine lv_i2l hx hb dX11_crossing_77 rfl ?_
          have ho := Option.some.inj hf
          subst ho
          rw [hQq]
          exact xs_lret C hr hlk hP hD hS dX11_crossing_78
        replace hf := xsBr_f c22_0 hf
        by_cases c22_1 : a1 = 5
        · replace hf := xsBr_t c22_1 hf
          refine lv_tableIn (tgt := 79) hx hb dX11_crossing_43 (by rw [c22_1]; decide) (by rw [c22_1]; decide) (by rw [c22_1]; rfl) (by decide) ?_
          refine lv_aload_n hx hb dX11_crossing_79 rfl (lv_at hl 1 rfl) ?_
          refine xg_X11_48 C hP dX11_crossing_80 ?_
          refine lv_iload_n hx hb dX11_crossing_83 rfl (lv_at hl 0 rfl) ?_
          replace hf := xsCk_use hf
          obtain ⟨h13, hf⟩ := hf
          refine xl_mBundle C hP h13 dX11_crossing_84 ?_
          refine lv_i2l hx hb dX11_crossing_85 rfl ?_
          have ho := Option.some.inj hf
          subst ho
          rw [hQq]
          exact xs_lret C hr hlk hP hD hS dX11_crossing_86
        replace hf := xsBr_f c22_1 hf
        by_cases c22_2 : a1 = 6
        · replace hf := xsBr_t c22_2 hf
          refine lv_tableIn (tgt := 87) hx hb dX11_crossing_43 (by rw [c22_2]; decide) (by rw [c22_2]; decide) (by rw [c22_2]; rfl) (by decide) ?_
          refine lv_aload_n hx hb dX11_crossing_87 rfl (lv_at hl 1 rfl) ?_
          refine lv_aload_n hx hb dX11_crossing_88 rfl (lv_at hl 1 rfl) ?_
          refine xg_X11_48 C hP dX11_crossing_89 ?_
          refine lv_iload_n hx hb dX11_crossing_92 rfl (lv_at hl 0 rfl) ?_
          replace hf := xsCk_use hf
          obtain ⟨h14, hf⟩ := hf
          refine xl_mBundle C hP h14 dX11_crossing_93 ?_
          replace hf := xsBd_use hf
          obtain ⟨o15, h16, hf⟩ := hf
          refine xs_calli hS (xs_runV (As := [.int (o1.2.2.2.2.2.2.2.2.2.2.2.2.2.2.1 x9.toNatClampNeg)]) C (mX11_tintsOf l  h16) w_1786 w_1788 w_75 w_115 w_1789 hd_X11_tintsOf ⟨rfl, rfl, Nat.le_of_ble_eq_true rfl, Nat.le_of_ble_eq_true rfl, Nat.zero_le _, Nat.zero_le _⟩ hP hD hS lk_X11 rfl hl.1 rfl (Nat.le_of_ble_eq_true rfl) dX11_crossing_94) (fun H locs hP hD hS => ?_)
          refine lv_i2l hx hb dX11_crossing_97 rfl ?_
          have ho := Option.some.inj hf
          subst ho
          rw [hQq]
          exact xs_lret C hr hlk hP hD hS dX11_crossing_98
        replace hf := xsBr_f c22_2 hf
        refine lv_tableOut (tgt := 99) hx hb dX11_crossing_43 (xs_swo [4, 5, 6] (by decide) ⟨c22_0, c22_1, c22_2, trivial⟩) (by decide) ?_
        refine lv_aload_n hx hb dX11_crossing_99 rfl (lv_at hl 1 rfl) ?_
        refine xg_X11_35 C hP dX11_crossing_100 ?_
        refine lv_iload_n hx hb dX11_crossing_103 rfl (lv_at hl 0 rfl) ?_
        replace hf := xsCk_use hf
        obtain ⟨h17, hf⟩ := hf
        refine xl_mEventX C hP h17 dX11_crossing_104 ?_
        refine lv_aload_n hx hb dX11_crossing_105 rfl (lv_at hl 1 rfl) ?_
        refine xg_X11_39 C hP dX11_crossing_106 ?_
        refine lv_iload_n hx hb dX11_crossing_109 rfl (lv_at hl 0 rfl) ?_
        replace hf := xsCk_use hf
        obtain ⟨h18, hf⟩ := hf
        refine xl_mEventY C hP h18 dX11_crossing_110 ?_
        refine lv_aload_n hx hb dX11_crossing_111 rfl (lv_at hl 1 rfl) ?_
        refine xg_X11_42 C hP dX11_crossing_112 ?_
        refine lv_iload_n hx hb dX11_crossing_115 rfl (lv_at hl 0 rfl) ?_
        replace hf := xsCk_use hf
        obtain ⟨h19, hf⟩ := hf
        refine xl_mEventD C hP h19 dX11_crossing_116 ?_
        refine lv_iload_n hx hb dX11_crossing_117 rfl (lv_at hl 3 rfl) ?_
        replace hf := xsBd_use hf
        obtain ⟨o20, h21, hf⟩ := hf
        refine xs_calll hS (xs_runS (As := [.long (o1.2.2.2.2.2.2.2.2.2.1 x9.toNatClampNeg), .long (o1.2.2.2.2.2.2.2.2.2.2.1 x9.toNatClampNeg), .long (o1.2.2.2.2.2.2.2.2.2.2.2.1 x9.toNatClampNeg), .int a1]) C (mX11_partOfPoint l  h21) w_1764 w_1765 w_115 w_1766 hd_X11_partOfPoint ⟨rfl, rfl, Nat.le_of_ble_eq_true rfl, Nat.le_of_ble_eq_true rfl, Nat.zero_le _, Nat.zero_le _⟩ hP hD hS hl.1 rfl (Nat.le_of_ble_eq_true rfl) dX11_crossing_118) (fun H locs hP hD hS => ?_)
        have ho := Option.some.inj hf
        subst ho
        rw [hQq]
        exact xs_lret C hr hlk hP hD hS dX11_crossing_121
      · replace hf := xsBr_f c23 hf
        refine lv_lconst (v := (0 : Int64)) hx hb dX11_crossing_33 (by decide) ?_
        have ho := Option.some.inj hf
        subst ho
        rw [hQq]
        exact xs_lret C hr hlk hP hD hS dX11_crossing_34
    replace hf := xsBd_use hf
    obtain ⟨v24, hf, hk25⟩ := hf
    refine lv_if_ne (tgt := 25) hx hb dX11_crossing_18 (by decide) (fun c27 => ?_) (fun c27 => ?_)
    · replace hf := xsBr_f c27 hf
      refine lv_iconst (v := (0 : Int32)) hx hb dX11_crossing_25 (by decide) ?_
      have ev := Option.some.inj hf
      subst ev
      exact K26 (0 : Int32) hk25 H locs ls hP hD hS (lv_sub hl [0, 1, 2] rfl)
    · replace hf := xsBr_t c27 hf
      refine lv_iconst (v := (1 : Int32)) hx hb dX11_crossing_21 (by decide) ?_
      refine lv_goto (tgt := 26) hx hb dX11_crossing_22 (by decide) ?_
      have ev := Option.some.inj hf
      subst ev
      exact K26 (1 : Int32) hk25 H locs ls hP hD hS (lv_sub hl [0, 1, 2] rfl)
set_option maxRecDepth 100000 in
set_option maxHeartbeats 8000000 in
theorem mX11_isLeftAt (l : Launch) {X : xsX} {mThrown mRemembered mHasImage mIsLaid mEvents mCrossings mEdges mTaped mPoint mEnd mBegin mFaultAt mActs : Int32} {mWorld mImage mDraft mEarlier mOne mTwo mShare mCrossingOf mBundle mEventOf mDegree mFrom mTo mMet mTape mFive mTold mFar mViews mHullX mHullY mEndX mEndY mMeets mMeetsOf : Nat → Int32} {mX mY mD mHeightUp mHeightLow : Int64} {mEventX mEventY mEventD mUpper mLower : Nat → Int64} {Rw : va_W} {a0 : Int32} {a1 : Int32} {out : Int32} (hf : fX11_isLeftAt mWorld mEventX mEventY mEventD a0 a1 = some out) : Met l yX11_isLeftAt (xsWs yX11_isLeftAt cX11_isLeftAt 3 (some .boolean)) { frames := 1, cells := 0, slots := 0, locals := 22 } (xsP X (wM X mThrown mWorld mImage mDraft mEarlier mRemembered mHasImage mIsLaid mOne mTwo mShare mX mY mD mEventX mEventY mEventD mEvents mCrossingOf mBundle mEventOf mDegree mFrom mTo mCrossings mEdges mMet mUpper mLower mTape mTaped mPoint mEnd mBegin mFaultAt mFive mTold mActs mFar mViews mHullX mHullY mEndX mEndY mHeightUp mHeightLow mMeets mMeetsOf Rw) [.ref (xsA X 100), .int a0, .int a1]) (xsQi X out (wM X mThrown mWorld mImage mDraft mEarlier mRemembered mHasImage mIsLaid mOne mTwo mShare mX mY mD mEventX mEventY mEventD mEvents mCrossingOf mBundle mEventOf mDegree mFrom mTo mCrossings mEdges mMet mUpper mLower mTape mTaped mPoint mEnd mBegin mFaultAt mFive mTold mActs mFar mViews mHullX mHullY mEndX mEndY mHeightUp mHeightLow mMeets mMeetsOf Rw)) 0 0 (xsF X) := by
  refine xs_meth RX11 (by decide) rfl (Nat.le_of_ble_eq_true rfl) ?_
  intro p e s m below meth c ls H locs C hP hD hS hr hlk hl
  have hx := C.1
  have hb := C.2.1
  have hl : lv_has ls 3 [(0, .ref (xsA X 100)), (1, .int a0), (2, .int a1)] := hl
  obtain ⟨Qq, hQq⟩ : ∃ Qq, Qq = xsQi X out (wM X mThrown mWorld mImage mDraft mEarlier mRemembered mHasImage mIsLaid mOne mTwo mShare mX mY mD mEventX mEventY mEventD mEvents mCrossingOf mBundle mEventOf mDegree mFrom mTo mCrossings mEdges mMet mUpper mLower mTape mTaped mPoint mEnd mBegin mFaultAt mFive mTold mActs mFar mViews mHullX mHullY mEndX mEndY mHeightUp mHeightLow mMeets mMeetsOf Rw) := ⟨_, rfl⟩
  rw [← hQq]
  unfold fX11_isLeftAt at hf
  refine lv_aload_n hx hb dX11_isLeftAt_0 rfl (lv_at hl 0 rfl) ?_
  refine xg_X11_35 C hP dX11_isLeftAt_1 ?_
  refine lv_iload_n hx hb dX11_isLeftAt_4 rfl (lv_at hl 2 rfl) ?_
  replace hf := xsCk_use hf
  obtain ⟨h1, hf⟩ := hf
  refine xl_mEventX C hP h1 dX11_isLeftAt_5 ?_
  refine lv_aload_n hx hb dX11_isLeftAt_6 rfl (lv_at hl 0 rfl) ?_
  refine lv_iload_n hx hb dX11_isLeftAt_7 rfl (lv_at hl 1 rfl) ?_
  refine lv_iconst (v := (0 : Int32)) hx hb dX11_isLeftAt_8 (by decide) ?_
  replace hf := xsBd_use hf
  obtain ⟨o2, h3, hf⟩ := hf
  refine xs_calli hS (xs_runV (As := [.int a0, .int (0 : Int32)]) C (mX11_of l  h3) w_1608 w_1610 w_50 w_115 w_1611 hd_X11_of ⟨rfl, rfl, Nat.le_of_ble_eq_true rfl, Nat.le_of_ble_eq_true rfl, Nat.zero_le _, Nat.zero_le _⟩ hP hD hS lk_X11 rfl hl.1 rfl (Nat.le_of_ble_eq_true rfl) dX11_isLeftAt_9) (fun H locs hP hD hS => ?_)
  refine lv_i2l hx hb dX11_isLeftAt_12 rfl ?_
  refine lv_aload_n hx hb dX11_isLeftAt_13 rfl (lv_at hl 0 rfl) ?_
  refine xg_X11_42 C hP dX11_isLeftAt_14 ?_
  refine lv_iload_n hx hb dX11_isLeftAt_17 rfl (lv_at hl 2 rfl) ?_
  replace hf := xsCk_use hf
  obtain ⟨h4, hf⟩ := hf
  refine xl_mEventD C hP h4 dX11_isLeftAt_18 ?_
  refine lv_lmul hx hb dX11_isLeftAt_19 ?_
  refine xs_lcmp_ne (tgt := 52) C dX11_isLeftAt_20 dX11_isLeftAt_21 (by decide) (fun c10 => ?_) (fun c10 => ?_)
  · replace hf := xsBr_f c10 hf
    refine lv_iconst (v := (0 : Int32)) hx hb dX11_isLeftAt_52 (by decide) ?_
    have ho := Option.some.inj hf
    subst ho
    rw [hQq]
    exact xs_zret C hr hlk xsB_0 hP hD hS dX11_isLeftAt_53
  · replace hf := xsBr_t c10 hf
    refine lv_aload_n hx hb dX11_isLeftAt_24 rfl (lv_at hl 0 rfl) ?_
    refine xg_X11_39 C hP dX11_isLeftAt_25 ?_
    refine lv_iload_n hx hb dX11_isLeftAt_28 rfl (lv_at hl 2 rfl) ?_
    replace hf := xsCk_use hf
    obtain ⟨h5, hf⟩ := hf
    refine xl_mEventY C hP h5 dX11_isLeftAt_29 ?_
    refine lv_aload_n hx hb dX11_isLeftAt_30 rfl (lv_at hl 0 rfl) ?_
    refine lv_iload_n hx hb dX11_isLeftAt_31 rfl (lv_at hl 1 rfl) ?_
    refine lv_iconst (v := (1 : Int32)) hx hb dX11_isLeftAt_32 (by decide) ?_
    replace hf := xsBd_use hf
    obtain ⟨o6, h7, hf⟩ := hf
    refine xs_calli hS (xs_runV (As := [.int a0, .int (1 : Int32)]) C (mX11_of l  h7) w_1608 w_1610 w_50 w_115 w_1611 hd_X11_of ⟨rfl, rfl, Nat.le_of_ble_eq_true rfl, Nat.le_of_ble_eq_true rfl, Nat.zero_le _, Nat.zero_le _⟩ hP hD hS lk_X11 rfl hl.1 rfl (Nat.le_of_ble_eq_true rfl) dX11_isLeftAt_33) (fun H locs hP hD hS => ?_)
    refine lv_i2l hx hb dX11_isLeftAt_36 rfl ?_
    refine lv_aload_n hx hb dX11_isLeftAt_37 rfl (lv_at hl 0 rfl) ?_
    refine xg_X11_42 C hP dX11_isLeftAt_38 ?_
    refine lv_iload_n hx hb dX11_isLeftAt_41 rfl (lv_at hl 2 rfl) ?_
    replace hf := xsCk_use hf
    obtain ⟨h8, hf⟩ := hf
    refine xl_mEventD C hP h8 dX11_isLeftAt_42 ?_
    refine lv_lmul hx hb dX11_isLeftAt_43 ?_
    refine xs_lcmp_ne (tgt := 52) C dX11_isLeftAt_44 dX11_isLeftAt_45 (by decide) (fun c9 => ?_) (fun c9 => ?_)
    · replace hf := xsBr_f c9 hf
      refine lv_iconst (v := (0 : Int32)) hx hb dX11_isLeftAt_52 (by decide) ?_
      have ho := Option.some.inj hf
      subst ho
      rw [hQq]
      exact xs_zret C hr hlk xsB_0 hP hD hS dX11_isLeftAt_53
    · replace hf := xsBr_t c9 hf
      refine lv_iconst (v := (1 : Int32)) hx hb dX11_isLeftAt_48 (by decide) ?_
      refine lv_goto (tgt := 53) hx hb dX11_isLeftAt_49 (by decide) ?_
      have ho := Option.some.inj hf
      subst ho
      rw [hQq]
      exact xs_zret C hr hlk xsB_1 hP hD hS dX11_isLeftAt_53
set_option maxRecDepth 100000 in
set_option maxHeartbeats 8000000 in
theorem mX11_isRightAt (l : Launch) {X : xsX} {mThrown mRemembered mHasImage mIsLaid mEvents mCrossings mEdges mTaped mPoint mEnd mBegin mFaultAt mActs : Int32} {mWorld mImage mDraft mEarlier mOne mTwo mShare mCrossingOf mBundle mEventOf mDegree mFrom mTo mMet mTape mFive mTold mFar mViews mHullX mHullY mEndX mEndY mMeets mMeetsOf : Nat → Int32} {mX mY mD mHeightUp mHeightLow : Int64} {mEventX mEventY mEventD mUpper mLower : Nat → Int64} {Rw : va_W} {a0 : Int32} {a1 : Int32} {out : Int32} (hf : fX11_isRightAt mWorld mEventX mEventY mEventD a0 a1 = some out) : Met l yX11_isRightAt (xsWs yX11_isRightAt cX11_isRightAt 3 (some .boolean)) { frames := 1, cells := 0, slots := 0, locals := 22 } (xsP X (wM X mThrown mWorld mImage mDraft mEarlier mRemembered mHasImage mIsLaid mOne mTwo mShare mX mY mD mEventX mEventY mEventD mEvents mCrossingOf mBundle mEventOf mDegree mFrom mTo mCrossings mEdges mMet mUpper mLower mTape mTaped mPoint mEnd mBegin mFaultAt mFive mTold mActs mFar mViews mHullX mHullY mEndX mEndY mHeightUp mHeightLow mMeets mMeetsOf Rw) [.ref (xsA X 100), .int a0, .int a1]) (xsQi X out (wM X mThrown mWorld mImage mDraft mEarlier mRemembered mHasImage mIsLaid mOne mTwo mShare mX mY mD mEventX mEventY mEventD mEvents mCrossingOf mBundle mEventOf mDegree mFrom mTo mCrossings mEdges mMet mUpper mLower mTape mTaped mPoint mEnd mBegin mFaultAt mFive mTold mActs mFar mViews mHullX mHullY mEndX mEndY mHeightUp mHeightLow mMeets mMeetsOf Rw)) 0 0 (xsF X) := by
  refine xs_meth RX11 (by decide) rfl (Nat.le_of_ble_eq_true rfl) ?_
  intro p e s m below meth c ls H locs C hP hD hS hr hlk hl
  have hx := C.1
  have hb := C.2.1
  have hl : lv_has ls 3 [(0, .ref (xsA X 100)), (1, .int a0), (2, .int a1)] := hl
  obtain ⟨Qq, hQq⟩ : ∃ Qq, Qq = xsQi X out (wM X mThrown mWorld mImage mDraft mEarlier mRemembered mHasImage mIsLaid mOne mTwo mShare mX mY mD mEventX mEventY mEventD mEvents mCrossingOf mBundle mEventOf mDegree mFrom mTo mCrossings mEdges mMet mUpper mLower mTape mTaped mPoint mEnd mBegin mFaultAt mFive mTold mActs mFar mViews mHullX mHullY mEndX mEndY mHeightUp mHeightLow mMeets mMeetsOf Rw) := ⟨_, rfl⟩
  rw [← hQq]
  unfold fX11_isRightAt at hf
  refine lv_aload_n hx hb dX11_isRightAt_0 rfl (lv_at hl 0 rfl) ?_
  refine xg_X11_35 C hP dX11_isRightAt_1 ?_
  refine lv_iload_n hx hb dX11_isRightAt_4 rfl (lv_at hl 2 rfl) ?_
  replace hf := xsCk_use hf
  obtain ⟨h1, hf⟩ := hf
  refine xl_mEventX C hP h1 dX11_isRightAt_5 ?_
  refine lv_aload_n hx hb dX11_isRightAt_6 rfl (lv_at hl 0 rfl) ?_
  refine lv_iload_n hx hb dX11_isRightAt_7 rfl (lv_at hl 1 rfl) ?_
  refine lv_iconst (v := (2 : Int32)) hx hb dX11_isRightAt_8 (by decide) ?_
  replace hf := xsBd_use hf
  obtain ⟨o2, h3, hf⟩ := hf
  refine xs_calli hS (xs_runV (As := [.int a0, .int (2 : Int32)]) C (mX11_of l  h3) w_1608 w_1610 w_50 w_115 w_1611 hd_X11_of ⟨rfl, rfl, Nat.le_of_ble_eq_true rfl, Nat.le_of_ble_eq_true rfl, Nat.zero_le _, Nat.zero_le _⟩ hP hD hS lk_X11 rfl hl.1 rfl (Nat.le_of_ble_eq_true rfl) dX11_isRightAt_9) (fun H locs hP hD hS => ?_)
  refine lv_i2l hx hb dX11_isRightAt_12 rfl ?_
  refine lv_aload_n hx hb dX11_isRightAt_13 rfl (lv_at hl 0 rfl) ?_
  refine xg_X11_42 C hP dX11_isRightAt_14 ?_
  refine lv_iload_n hx hb dX11_isRightAt_17 rfl (lv_at hl 2 rfl) ?_
  replace hf := xsCk_use hf
  obtain ⟨h4, hf⟩ := hf
  refine xl_mEventD C hP h4 dX11_isRightAt_18 ?_
  refine lv_lmul hx hb dX11_isRightAt_19 ?_
  refine xs_lcmp_ne (tgt := 52) C dX11_isRightAt_20 dX11_isRightAt_21 (by decide) (fun c10 => ?_) (fun c10 => ?_)
  · replace hf := xsBr_f c10 hf
    refine lv_iconst (v := (0 : Int32)) hx hb dX11_isRightAt_52 (by decide) ?_
    have ho := Option.some.inj hf
    subst ho
    rw [hQq]
    exact xs_zret C hr hlk xsB_0 hP hD hS dX11_isRightAt_53
  · replace hf := xsBr_t c10 hf
    refine lv_aload_n hx hb dX11_isRightAt_24 rfl (lv_at hl 0 rfl) ?_
    refine xg_X11_39 C hP dX11_isRightAt_25 ?_
    refine lv_iload_n hx hb dX11_isRightAt_28 rfl (lv_at hl 2 rfl) ?_
    replace hf := xsCk_use hf
    obtain ⟨h5, hf⟩ := hf
    refine xl_mEventY C hP h5 dX11_isRightAt_29 ?_
    refine lv_aload_n hx hb dX11_isRightAt_30 rfl (lv_at hl 0 rfl) ?_
    refine lv_iload_n hx hb dX11_isRightAt_31 rfl (lv_at hl 1 rfl) ?_
    refine lv_iconst (v := (3 : Int32)) hx hb dX11_isRightAt_32 (by decide) ?_
    replace hf := xsBd_use hf
    obtain ⟨o6, h7, hf⟩ := hf
    refine xs_calli hS (xs_runV (As := [.int a0, .int (3 : Int32)]) C (mX11_of l  h7) w_1608 w_1610 w_50 w_115 w_1611 hd_X11_of ⟨rfl, rfl, Nat.le_of_ble_eq_true rfl, Nat.le_of_ble_eq_true rfl, Nat.zero_le _, Nat.zero_le _⟩ hP hD hS lk_X11 rfl hl.1 rfl (Nat.le_of_ble_eq_true rfl) dX11_isRightAt_33) (fun H locs hP hD hS => ?_)
    refine lv_i2l hx hb dX11_isRightAt_36 rfl ?_
    refine lv_aload_n hx hb dX11_isRightAt_37 rfl (lv_at hl 0 rfl) ?_
    refine xg_X11_42 C hP dX11_isRightAt_38 ?_
    refine lv_iload_n hx hb dX11_isRightAt_41 rfl (lv_at hl 2 rfl) ?_
    replace hf := xsCk_use hf
    obtain ⟨h8, hf⟩ := hf
    refine xl_mEventD C hP h8 dX11_isRightAt_42 ?_
    refine lv_lmul hx hb dX11_isRightAt_43 ?_
    refine xs_lcmp_ne (tgt := 52) C dX11_isRightAt_44 dX11_isRightAt_45 (by decide) (fun c9 => ?_) (fun c9 => ?_)
    · replace hf := xsBr_f c9 hf
      refine lv_iconst (v := (0 : Int32)) hx hb dX11_isRightAt_52 (by decide) ?_
      have ho := Option.some.inj hf
      subst ho
      rw [hQq]
      exact xs_zret C hr hlk xsB_0 hP hD hS dX11_isRightAt_53
    · replace hf := xsBr_t c9 hf
      refine lv_iconst (v := (1 : Int32)) hx hb dX11_isRightAt_48 (by decide) ?_
      refine lv_goto (tgt := 53) hx hb dX11_isRightAt_49 (by decide) ?_
      have ho := Option.some.inj hf
      subst ho
      rw [hQq]
      exact xs_zret C hr hlk xsB_1 hP hD hS dX11_isRightAt_53
set_option maxRecDepth 100000 in
set_option maxHeartbeats 8000000 in
theorem mX11_endsAt (l : Launch) {X : xsX} {mThrown mRemembered mHasImage mIsLaid mEvents mCrossings mEdges mTaped mPoint mEnd mBegin mFaultAt mActs : Int32} {mWorld mImage mDraft mEarlier mOne mTwo mShare mCrossingOf mBundle mEventOf mDegree mFrom mTo mMet mTape mFive mTold mFar mViews mHullX mHullY mEndX mEndY mMeets mMeetsOf : Nat → Int32} {mX mY mD mHeightUp mHeightLow : Int64} {mEventX mEventY mEventD mUpper mLower : Nat → Int64} {Rw : va_W} {a0 : Int32} {a1 : Int32} {out : Int32} (hf : fX11_endsAt mWorld mEventX mEventY mEventD a0 a1 = some out) : Met l yX11_endsAt (xsWs yX11_endsAt cX11_endsAt 5 (some .int)) { frames := 2, cells := 0, slots := 0, locals := 44 } (xsP X (wM X mThrown mWorld mImage mDraft mEarlier mRemembered mHasImage mIsLaid mOne mTwo mShare mX mY mD mEventX mEventY mEventD mEvents mCrossingOf mBundle mEventOf mDegree mFrom mTo mCrossings mEdges mMet mUpper mLower mTape mTaped mPoint mEnd mBegin mFaultAt mFive mTold mActs mFar mViews mHullX mHullY mEndX mEndY mHeightUp mHeightLow mMeets mMeetsOf Rw) [.ref (xsA X 100), .int a0, .int a1]) (xsQi X out (wM X mThrown mWorld mImage mDraft mEarlier mRemembered mHasImage mIsLaid mOne mTwo mShare mX mY mD mEventX mEventY mEventD mEvents mCrossingOf mBundle mEventOf mDegree mFrom mTo mCrossings mEdges mMet mUpper mLower mTape mTaped mPoint mEnd mBegin mFaultAt mFive mTold mActs mFar mViews mHullX mHullY mEndX mEndY mHeightUp mHeightLow mMeets mMeetsOf Rw)) 0 0 (xsF X) := by
  refine xs_meth RX11 (by decide) rfl (Nat.le_of_ble_eq_true rfl) ?_
  intro p e s m below meth c ls H locs C hP hD hS hr hlk hl
  have hx := C.1
  have hb := C.2.1
  have hl : lv_has ls 5 [(0, .ref (xsA X 100)), (1, .int a0), (2, .int a1)] := hl
  obtain ⟨Qq, hQq⟩ : ∃ Qq, Qq = xsQi X out (wM X mThrown mWorld mImage mDraft mEarlier mRemembered mHasImage mIsLaid mOne mTwo mShare mX mY mD mEventX mEventY mEventD mEvents mCrossingOf mBundle mEventOf mDegree mFrom mTo mCrossings mEdges mMet mUpper mLower mTape mTaped mPoint mEnd mBegin mFaultAt mFive mTold mActs mFar mViews mHullX mHullY mEndX mEndY mHeightUp mHeightLow mMeets mMeetsOf Rw) := ⟨_, rfl⟩
  rw [← hQq]
  unfold fX11_endsAt at hf
  refine lv_iconst (v := (0 : Int32)) hx hb dX11_endsAt_0 (by decide) ?_
  refine lv_istore_n (lv' := [(3, .int (0 : Int32)), (0, .ref (xsA X 100)), (1, .int a0), (2, .int a1)]) hx hb dX11_endsAt_1 rfl hl (by decide) rfl (fun ls hl => ?_)
  refine lv_iconst (v := (0 : Int32)) hx hb dX11_endsAt_2 (by decide) ?_
  refine lv_istore (lv' := [(4, .int (0 : Int32)), (3, .int (0 : Int32)), (0, .ref (xsA X 100)), (1, .int a0), (2, .int a1)]) hx hb dX11_endsAt_3 hl (by decide) rfl (fun ls hl => ?_)
  have K3 : ∀ (y4 : Int32) (hf : fX11_endsAt_J58 y4 = some out) (H : Heap) (locs : List Loc) (ls : Array Slot), va_P (xsD X) vwCl (wM X mThrown mWorld mImage mDraft mEarlier mRemembered mHasImage mIsLaid mOne mTwo mShare mX mY mD mEventX mEventY mEventD mEvents mCrossingOf mBundle mEventOf mDegree mFrom mTo mCrossings mEdges mMet mUpper mLower mTape mTaped mPoint mEnd mBegin mFaultAt mFive mTold mActs mFar mViews mHullX mHullY mEndX mEndY mHeightUp mHeightLow mMeets mMeetsOf Rw) H → va_D (xsF X) (wM X mThrown mWorld mImage mDraft mEarlier mRemembered mHasImage mIsLaid mOne mTwo mShare mX mY mD mEventX mEventY mEventD mEvents mCrossingOf mBundle mEventOf mDegree mFrom mTo mCrossings mEdges mMet mUpper mLower mTape mTaped mPoint mEnd mBegin mFaultAt mFive mTold mActs mFar mViews mHullX mHullY mEndX mEndY mHeightUp mHeightLow mMeets mMeetsOf Rw) → va_S (xsF X) s.heap H locs → lv_has ls 5 [(3, .int y4)] → W p l e { frames := 2, cells := 0, slots := 0, locals := 44 } s m ([.ref (xsA X 100), .int a0, .int a1] : List Value).toArray below meth c H locs 0 0 (MQ below Qq ([.ref (xsA X 100), .int a0, .int a1] : List Value).toArray s 0 0 (xsF X)) (F0 m 58 ls []) := by
    intro y4 hf H locs ls hP hD hS hl
    unfold fX11_endsAt_J58 at hf
    refine lv_iload_n hx hb dX11_endsAt_58 rfl (lv_at hl 0 rfl) ?_
    have ho := Option.some.inj hf
    subst ho
    rw [hQq]
    exact xs_iret C hr hlk hP hD hS dX11_endsAt_59
  replace hf := xsBd_use hf
  obtain ⟨r3, hk30, hf⟩ := hf
  have L3 : ∀ (sg : Int32 × Int32) (rg : Int32), xsWh (fun s3 => fX11_endsAt_L5 mWorld mEventX mEventY mEventD a0 a1 s3.1 s3.2) sg = some rg → (fX11_endsAt_J58 rg = some out → ∀ (H : Heap) (locs : List Loc) (ls : Array Slot), va_P (xsD X) vwCl (wM X mThrown mWorld mImage mDraft mEarlier mRemembered mHasImage mIsLaid mOne mTwo mShare mX mY mD mEventX mEventY mEventD mEvents mCrossingOf mBundle mEventOf mDegree mFrom mTo mCrossings mEdges mMet mUpper mLower mTape mTaped mPoint mEnd mBegin mFaultAt mFive mTold mActs mFar mViews mHullX mHullY mEndX mEndY mHeightUp mHeightLow mMeets mMeetsOf Rw) H → va_D (xsF X) (wM X mThrown mWorld mImage mDraft mEarlier mRemembered mHasImage mIsLaid mOne mTwo mShare mX mY mD mEventX mEventY mEventD mEvents mCrossingOf mBundle mEventOf mDegree mFrom mTo mCrossings mEdges mMet mUpper mLower mTape mTaped mPoint mEnd mBegin mFaultAt mFive mTold mActs mFar mViews mHullX mHullY mEndX mEndY mHeightUp mHeightLow mMeets mMeetsOf Rw) → va_S (xsF X) s.heap H locs → lv_has ls 5 [(0, .ref (xsA X 100)), (1, .int a0), (2, .int a1), (3, .int sg.1), (4, .int sg.2)] → W p l e { frames := 2, cells := 0, slots := 0, locals := 44 } s m ([.ref (xsA X 100), .int a0, .int a1] : List Value).toArray below meth c H locs 0 0 (MQ below Qq ([.ref (xsA X 100), .int a0, .int a1] : List Value).toArray s 0 0 (xsF X)) (F0 m 5 ls [])) := by
    refine xsWh_ind ?_
    intro sg r3 u3 hf ih3 hx3 hk3 H locs ls hP hD hS hl
    obtain ⟨y1, y2⟩ := sg
    replace hf : fX11_endsAt_L5 mWorld mEventX mEventY mEventD a0 a1 y1 y2 = some u3 := hf
    replace hl : lv_has ls 5 [(0, .ref (xsA X 100)), (1, .int a0), (2, .int a1), (3, .int y1), (4, .int y2)] := hl
    replace hP : va_P (xsD X) vwCl (wM X mThrown mWorld mImage mDraft mEarlier mRemembered mHasImage mIsLaid mOne mTwo mShare mX mY mD mEventX mEventY mEventD mEvents mCrossingOf mBundle mEventOf mDegree mFrom mTo mCrossings mEdges mMet mUpper mLower mTape mTaped mPoint mEnd mBegin mFaultAt mFive mTold mActs mFar mViews mHullX mHullY mEndX mEndY mHeightUp mHeightLow mMeets mMeetsOf Rw) H := hP
    replace hD : va_D (xsF X) (wM X mThrown mWorld mImage mDraft mEarlier mRemembered mHasImage mIsLaid mOne mTwo mShare mX mY mD mEventX mEventY mEventD mEvents mCrossingOf mBundle mEventOf mDegree mFrom mTo mCrossings mEdges mMet mUpper mLower mTape mTaped mPoint mEnd mBegin mFaultAt mFive mTold mActs mFar mViews mHullX mHullY mEndX mEndY mHeightUp mHeightLow mMeets mMeetsOf Rw) := hD
    unfold fX11_endsAt_L5 at hf
    refine lv_iload hx hb dX11_endsAt_5 (lv_at hl 4 rfl) ?_
    refine lv_aload_n hx hb dX11_endsAt_7 rfl (lv_at hl 0 rfl) ?_
    replace hf := xsBd_use hf
    obtain ⟨o5, h6, hf⟩ := hf
    refine xs_calli hS (xs_runV (As := []) C (mX11_many l  h6) w_1581 w_1583 w_44 w_115 w_1584 hd_X11_many ⟨rfl, rfl, Nat.le_of_ble_eq_true rfl, Nat.le_of_ble_eq_true rfl, Nat.zero_le _, Nat.zero_le _⟩ hP hD hS lk_X11 rfl hl.1 rfl (Nat.le_of_ble_eq_true rfl) dX11_endsAt_8) (fun H locs hP hD hS => ?_)
    refine lv_icmp_ge (tgt := 58) hx hb dX11_endsAt_11 (by decide) (fun c20 => ?_) (fun c20 => ?_)
    · replace hf := xsBr_t c20 hf
      have ez := hx3 _ (Option.some.inj hf).symm
      subst ez
      exact K3 y1 hk3 H locs ls hP hD hS (lv_sub hl [3] rfl)
    · replace hf := xsBr_f c20 hf
      refine lv_iload_n hx hb dX11_endsAt_14 rfl (lv_at hl 3 rfl) ?_
      refine lv_iload_n hx hb dX11_endsAt_15 rfl (lv_at hl 2 rfl) ?_
      have K12 : ∀ (y7 : Int32) (hf : fX11_endsAt_J50 y1 y2 y7 = some u3) (H : Heap) (locs : List Loc) (ls : Array Slot), va_P (xsD X) vwCl (wM X mThrown mWorld mImage mDraft mEarlier mRemembered mHasImage mIsLaid mOne mTwo mShare mX mY mD mEventX mEventY mEventD mEvents mCrossingOf mBundle mEventOf mDegree mFrom mTo mCrossings mEdges mMet mUpper mLower mTape mTaped mPoint mEnd mBegin mFaultAt mFive mTold mActs mFar mViews mHullX mHullY mEndX mEndY mHeightUp mHeightLow mMeets mMeetsOf Rw) H → va_D (xsF X) (wM X mThrown mWorld mImage mDraft mEarlier mRemembered mHasImage mIsLaid mOne mTwo mShare mX mY mD mEventX mEventY mEventD mEvents mCrossingOf mBundle mEventOf mDegree mFrom mTo mCrossings mEdges mMet mUpper mLower mTape mTaped mPoint mEnd mBegin mFaultAt mFive mTold mActs mFar mViews mHullX mHullY mEndX mEndY mHeightUp mHeightLow mMeets mMeetsOf Rw) → va_S (xsF X) s.heap H locs → lv_has ls 5 [(0, .ref (xsA X 100)), (1, .int a0), (2, .int a1), (4, .int y2)] → W p l e { frames := 2, cells := 0, slots := 0, locals := 44 } s m ([.ref (xsA X 100), .int a0, .int a1] : List Value).toArray below meth c H locs 0 0 (MQ below Qq ([.ref (xsA X 100), .int a0, .int a1] : List Value).toArray s 0 0 (xsF X)) (F0 m 50 ls [.int y7, .int y1]) := by
        intro y7 hf H locs ls hP hD hS hl
        unfold fX11_endsAt_J50 at hf
        refine lv_ior hx hb dX11_endsAt_50 ?_
        refine lv_topi (fun x8 ex8 => ?_)
        replace hf := xsLt_use ex8 hf
        refine lv_istore_n (lv' := [(3, .int x8), (0, .ref (xsA X 100)), (1, .int a0), (2, .int a1), (4, .int y2)]) hx hb dX11_endsAt_51 rfl hl (by decide) rfl (fun ls hl => ?_)
        obtain ⟨x9, ex9⟩ : ∃ y : Int32, y = y2 + (1 : Int32) := ⟨_, rfl⟩
        replace hf := xsLt_use ex9 hf
        refine lv_iinc (v := x9) (lv' := [(4, .int x9), (3, .int x8), (0, .ref (xsA X 100)), (1, .int a0), (2, .int a1)]) hx hb dX11_endsAt_52 hl (k := 4) rfl (by rw [ex9]; rfl) (by decide) rfl (fun ls hl => ?_)
        refine lv_goto (tgt := 5) hx hb dX11_endsAt_55 (by decide) ?_
        exact ih3 _ (Option.some.inj hf).symm hk3 H locs ls hP hD hS (lv_sub hl [2, 3, 4, 1, 0] rfl)
      replace hf := xsBd_use hf
      obtain ⟨v10, hf, hk11⟩ := hf
      refine lv_if_eq (tgt := 32) hx hb dX11_endsAt_16 (by decide) (fun c19 => ?_) (fun c19 => ?_)
      · replace hf := xsBr_t c19 hf
        refine lv_aload_n hx hb dX11_endsAt_32 rfl (lv_at hl 0 rfl) ?_
        refine lv_iload hx hb dX11_endsAt_33 (lv_at hl 4 rfl) ?_
        refine lv_iload_n hx hb dX11_endsAt_35 rfl (lv_at hl 1 rfl) ?_
        replace hf := xsBd_use hf
        obtain ⟨o13, h14, hf⟩ := hf
        refine xs_calli hS (xs_runV (As := [.int y2, .int a0]) C (mX11_isRightAt l  h14) w_1807 w_1809 w_79 w_115 w_1810 hd_X11_isRightAt ⟨rfl, rfl, Nat.le_of_ble_eq_true rfl, Nat.le_of_ble_eq_true rfl, Nat.zero_le _, Nat.zero_le _⟩ hP hD hS lk_X11 rfl hl.1 rfl (Nat.le_of_ble_eq_true rfl) dX11_endsAt_36) (fun H locs hP hD hS => ?_)
        refine lv_if_eq (tgt := 49) hx hb dX11_endsAt_39 (by decide) (fun c15 => ?_) (fun c15 => ?_)
        · replace hf := xsBr_t c15 hf
          refine lv_iconst (v := (0 : Int32)) hx hb dX11_endsAt_49 (by decide) ?_
          have ev := Option.some.inj hf
          subst ev
          exact K12 (0 : Int32) hk11 H locs ls hP hD hS (lv_sub hl [0, 1, 2, 4] rfl)
        · replace hf := xsBr_f c15 hf
          refine lv_iconst (v := (1 : Int32)) hx hb dX11_endsAt_42 (by decide) ?_
          refine lv_iload hx hb dX11_endsAt_43 (lv_at hl 4 rfl) ?_
          refine lv_ishl hx hb dX11_endsAt_45 ?_
          refine lv_goto (tgt := 50) hx hb dX11_endsAt_46 (by decide) ?_
          have ev := Option.some.inj hf
          subst ev
          exact K12 ((1 : Int32) <<< (y2 &&& 31)) hk11 H locs ls hP hD hS (lv_sub hl [0, 1, 2, 4] rfl)
      · replace hf := xsBr_f c19 hf
        refine lv_aload_n hx hb dX11_endsAt_19 rfl (lv_at hl 0 rfl) ?_
        refine lv_iload hx hb dX11_endsAt_20 (lv_at hl 4 rfl) ?_
        refine lv_iload_n hx hb dX11_endsAt_22 rfl (lv_at hl 1 rfl) ?_
        replace hf := xsBd_use hf
        obtain ⟨o16, h17, hf⟩ := hf
        refine xs_calli hS (xs_runV (As := [.int y2, .int a0]) C (mX11_isLeftAt l  h17) w_1803 w_1805 w_78 w_115 w_1806 hd_X11_isLeftAt ⟨rfl, rfl, Nat.le_of_ble_eq_true rfl, Nat.le_of_ble_eq_true rfl, Nat.zero_le _, Nat.zero_le _⟩ hP hD hS lk_X11 rfl hl.1 rfl (Nat.le_of_ble_eq_true rfl) dX11_endsAt_23) (fun H locs hP hD hS => ?_)
        refine lv_if_eq (tgt := 49) hx hb dX11_endsAt_26 (by decide) (fun c18 => ?_) (fun c18 => ?_)
        · replace hf := xsBr_t c18 hf
          refine lv_iconst (v := (0 : Int32)) hx hb dX11_endsAt_49 (by decide) ?_
          have ev := Option.some.inj hf
          subst ev
          exact K12 (0 : Int32) hk11 H locs ls hP hD hS (lv_sub hl [0, 1, 2, 4] rfl)
        · replace hf := xsBr_f c18 hf
          refine lv_goto (tgt := 42) hx hb dX11_endsAt_29 (by decide) ?_
          refine lv_iconst (v := (1 : Int32)) hx hb dX11_endsAt_42 (by decide) ?_
          refine lv_iload hx hb dX11_endsAt_43 (lv_at hl 4 rfl) ?_
          refine lv_ishl hx hb dX11_endsAt_45 ?_
          refine lv_goto (tgt := 50) hx hb dX11_endsAt_46 (by decide) ?_
          have ev := Option.some.inj hf
          subst ev
          exact K12 ((1 : Int32) <<< (y2 &&& 31)) hk11 H locs ls hP hD hS (lv_sub hl [0, 1, 2, 4] rfl)
  exact L3 ((0 : Int32), (0 : Int32)) r3 hk30 hf H locs ls hP hD hS (lv_sub hl [2, 3, 4, 1, 0] rfl)
set_option maxRecDepth 100000 in
set_option maxHeartbeats 8000000 in
theorem mX11_within (l : Launch) {X : xsX} {mThrown mRemembered mHasImage mIsLaid mEvents mCrossings mEdges mTaped mPoint mEnd mBegin mFaultAt mActs : Int32} {mWorld mImage mDraft mEarlier mOne mTwo mShare mCrossingOf mBundle mEventOf mDegree mFrom mTo mMet mTape mFive mTold mFar mViews mHullX mHullY mEndX mEndY mMeets mMeetsOf : Nat → Int32} {mX mY mD mHeightUp mHeightLow : Int64} {mEventX mEventY mEventD mUpper mLower : Nat → Int64} {Rw : va_W} {a0 : Int32} {out : Int32} (hf : fX11_within mWorld mEventX mEventY mEventD mBundle a0 = some out) : Met l yX11_within (xsWs yX11_within cX11_within 2 (some .int)) { frames := 3, cells := 0, slots := 0, locals := 68 } (xsP X (wM X mThrown mWorld mImage mDraft mEarlier mRemembered mHasImage mIsLaid mOne mTwo mShare mX mY mD mEventX mEventY mEventD mEvents mCrossingOf mBundle mEventOf mDegree mFrom mTo mCrossings mEdges mMet mUpper mLower mTape mTaped mPoint mEnd mBegin mFaultAt mFive mTold mActs mFar mViews mHullX mHullY mEndX mEndY mHeightUp mHeightLow mMeets mMeetsOf Rw) [.ref (xsA X 100), .int a0]) (xsQi X out (wM X mThrown mWorld mImage mDraft mEarlier mRemembered mHasImage mIsLaid mOne mTwo mShare mX mY mD mEventX mEventY mEventD mEvents mCrossingOf mBundle mEventOf mDegree mFrom mTo mCrossings mEdges mMet mUpper mLower mTape mTaped mPoint mEnd mBegin mFaultAt mFive mTold mActs mFar mViews mHullX mHullY mEndX mEndY mHeightUp mHeightLow mMeets mMeetsOf Rw)) 0 0 (xsF X) := by
  refine xs_meth RX11 (by decide) rfl (Nat.le_of_ble_eq_true rfl) ?_
  intro p e s m below meth c ls H locs C hP hD hS hr hlk hl
  have hx := C.1
  have hb := C.2.1
  have hl : lv_has ls 2 [(0, .ref (xsA X 100)), (1, .int a0)] := hl
  obtain ⟨Qq, hQq⟩ : ∃ Qq, Qq = xsQi X out (wM X mThrown mWorld mImage mDraft mEarlier mRemembered mHasImage mIsLaid mOne mTwo mShare mX mY mD mEventX mEventY mEventD mEvents mCrossingOf mBundle mEventOf mDegree mFrom mTo mCrossings mEdges mMet mUpper mLower mTape mTaped mPoint mEnd mBegin mFaultAt mFive mTold mActs mFar mViews mHullX mHullY mEndX mEndY mHeightUp mHeightLow mMeets mMeetsOf Rw) := ⟨_, rfl⟩
  rw [← hQq]
  unfold fX11_within at hf
  refine lv_aload_n hx hb dX11_within_0 rfl (lv_at hl 0 rfl) ?_
  refine xg_X11_48 C hP dX11_within_1 ?_
  refine lv_iload_n hx hb dX11_within_4 rfl (lv_at hl 1 rfl) ?_
  replace hf := xsCk_use hf
  obtain ⟨h1, hf⟩ := hf
  refine xl_mBundle C hP h1 dX11_within_5 ?_
  refine lv_aload_n hx hb dX11_within_6 rfl (lv_at hl 0 rfl) ?_
  refine lv_iload_n hx hb dX11_within_7 rfl (lv_at hl 1 rfl) ?_
  refine lv_iconst (v := (1 : Int32)) hx hb dX11_within_8 (by decide) ?_
  replace hf := xsBd_use hf
  obtain ⟨o2, h3, hf⟩ := hf
  refine xs_calli hS (xs_runV (As := [.int a0, .int (1 : Int32)]) C (mX11_endsAt l  h3) w_1799 w_1801 w_77 w_115 w_1802 hd_X11_endsAt ⟨rfl, rfl, Nat.le_of_ble_eq_true rfl, Nat.le_of_ble_eq_true rfl, Nat.zero_le _, Nat.zero_le _⟩ hP hD hS lk_X11 rfl hl.1 rfl (Nat.le_of_ble_eq_true rfl) dX11_within_9) (fun H locs hP hD hS => ?_)
  refine lv_iconst (v := (-1 : Int32)) hx hb dX11_within_12 (by decide) ?_
  refine lv_ixor hx hb dX11_within_13 ?_
  refine lv_iand hx hb dX11_within_14 ?_
  refine lv_aload_n hx hb dX11_within_15 rfl (lv_at hl 0 rfl) ?_
  refine lv_iload_n hx hb dX11_within_16 rfl (lv_at hl 1 rfl) ?_
  refine lv_iconst (v := (0 : Int32)) hx hb dX11_within_17 (by decide) ?_
  replace hf := xsBd_use hf
  obtain ⟨o4, h5, hf⟩ := hf
  refine xs_calli hS (xs_runV (As := [.int a0, .int (0 : Int32)]) C (mX11_endsAt l  h5) w_1799 w_1801 w_77 w_115 w_1802 hd_X11_endsAt ⟨rfl, rfl, Nat.le_of_ble_eq_true rfl, Nat.le_of_ble_eq_true rfl, Nat.zero_le _, Nat.zero_le _⟩ hP hD hS lk_X11 rfl hl.1 rfl (Nat.le_of_ble_eq_true rfl) dX11_within_18) (fun H locs hP hD hS => ?_)
  refine lv_iconst (v := (-1 : Int32)) hx hb dX11_within_21 (by decide) ?_
  refine lv_ixor hx hb dX11_within_22 ?_
  refine lv_iand hx hb dX11_within_23 ?_
  have ho := Option.some.inj hf
  subst ho
  rw [hQq]
  exact xs_iret C hr hlk hP hD hS dX11_within_24
set_option maxRecDepth 100000 in
set_option maxHeartbeats 8000000 in
theorem mX11_spreadOf (l : Launch) {X : xsX} {mThrown mRemembered mHasImage mIsLaid mEvents mCrossings mEdges mTaped mPoint mEnd mBegin mFaultAt mActs : Int32} {mWorld mImage mDraft mEarlier mOne mTwo mShare mCrossingOf mBundle mEventOf mDegree mFrom mTo mMet mTape mFive mTold mFar mViews mHullX mHullY mEndX mEndY mMeets mMeetsOf : Nat → Int32} {mX mY mD mHeightUp mHeightLow : Int64} {mEventX mEventY mEventD mUpper mLower : Nat → Int64} {Rw : va_W} {a0 : Int32} {out : Int32 × (Nat → Int32) × (Nat → Int32) × (Nat → Int32) × Int64 × Int64 × Int64} (hf : fX11_spreadOf mWorld mOne mTwo mShare mX mY mD mEventX mEventY mEventD mBundle a0 = some out) : Met l yX11_spreadOf (xsWs yX11_spreadOf cX11_spreadOf 6 (some .int)) { frames := 5, cells := 0, slots := 0, locals := 141 } (xsP X (wM X mThrown mWorld mImage mDraft mEarlier mRemembered mHasImage mIsLaid mOne mTwo mShare mX mY mD mEventX mEventY mEventD mEvents mCrossingOf mBundle mEventOf mDegree mFrom mTo mCrossings mEdges mMet mUpper mLower mTape mTaped mPoint mEnd mBegin mFaultAt mFive mTold mActs mFar mViews mHullX mHullY mEndX mEndY mHeightUp mHeightLow mMeets mMeetsOf Rw) [.ref (xsA X 100), .int a0]) (xsQi X out.1 (wM X mThrown mWorld mImage mDraft mEarlier mRemembered mHasImage mIsLaid out.2.1 out.2.2.1 out.2.2.2.1 out.2.2.2.2.1 out.2.2.2.2.2.1 out.2.2.2.2.2.2 mEventX mEventY mEventD mEvents mCrossingOf mBundle mEventOf mDegree mFrom mTo mCrossings mEdges mMet mUpper mLower mTape mTaped mPoint mEnd mBegin mFaultAt mFive mTold mActs mFar mViews mHullX mHullY mEndX mEndY mHeightUp mHeightLow mMeets mMeetsOf Rw)) 0 0 (xsF X) := by
  refine xs_meth RX11 (by decide) rfl (Nat.le_of_ble_eq_true rfl) ?_
  intro p e s m below meth c ls H locs C hP hD hS hr hlk hl
  have hx := C.1
  have hb := C.2.1
  have hl : lv_has ls 6 [(0, .ref (xsA X 100)), (1, .int a0)] := hl
  obtain ⟨Qq, hQq⟩ : ∃ Qq, Qq = xsQi X out.1 (wM X mThrown mWorld mImage mDraft mEarlier mRemembered mHasImage mIsLaid out.2.1 out.2.2.1 out.2.2.2.1 out.2.2.2.2.1 out.2.2.2.2.2.1 out.2.2.2.2.2.2 mEventX mEventY mEventD mEvents mCrossingOf mBundle mEventOf mDegree mFrom mTo mCrossings mEdges mMet mUpper mLower mTape mTaped mPoint mEnd mBegin mFaultAt mFive mTold mActs mFar mViews mHullX mHullY mEndX mEndY mHeightUp mHeightLow mMeets mMeetsOf Rw) := ⟨_, rfl⟩
  rw [← hQq]
  unfold fX11_spreadOf at hf
  refine lv_aload_n hx hb dX11_spreadOf_0 rfl (lv_at hl 0 rfl) ?_
  refine lv_iload_n hx hb dX11_spreadOf_1 rfl (lv_at hl 1 rfl) ?_
  replace hf := xsBd_use hf
  obtain ⟨o1, h2, hf⟩ := hf
  refine xs_calli hS (xs_runV (As := [.int a0]) C (mX11_within l  h2) w_1811 w_1813 w_80 w_115 w_1814 hd_X11_within ⟨rfl, rfl, Nat.le_of_ble_eq_true rfl, Nat.le_of_ble_eq_true rfl, Nat.zero_le _, Nat.zero_le _⟩ hP hD hS lk_X11 rfl hl.1 rfl (Nat.le_of_ble_eq_true rfl) dX11_spreadOf_2) (fun H locs hP hD hS => ?_)
  refine lv_istore_n (lv' := [(2, .int o1), (0, .ref (xsA X 100)), (1, .int a0)]) hx hb dX11_spreadOf_5 rfl hl (by decide) rfl (fun ls hl => ?_)
  refine lv_iconst (v := (0 : Int32)) hx hb dX11_spreadOf_6 (by decide) ?_
  refine lv_istore_n (lv' := [(3, .int (0 : Int32)), (2, .int o1), (0, .ref (xsA X 100)), (1, .int a0)]) hx hb dX11_spreadOf_7 rfl hl (by decide) rfl (fun ls hl => ?_)
  refine lv_iconst (v := (0 : Int32)) hx hb dX11_spreadOf_8 (by decide) ?_
  refine lv_istore (lv' := [(4, .int (0 : Int32)), (3, .int (0 : Int32)), (2, .int o1), (0, .ref (xsA X 100)), (1, .int a0)]) hx hb dX11_spreadOf_9 hl (by decide) rfl (fun ls hl => ?_)
  have K11 : ∀ (y12 : Int32) (y13 : Nat → Int32) (y14 : Nat → Int32) (y15 : Nat → Int32) (y16 : Int64) (y17 : Int64) (y18 : Int64) (hf : fX11_spreadOf_J80 y12 y13 y14 y15 y16 y17 y18 = some out) (H : Heap) (locs : List Loc) (ls : Array Slot), va_P (xsD X) vwCl (wM X mThrown mWorld mImage mDraft mEarlier mRemembered mHasImage mIsLaid y13 y14 y15 y16 y17 y18 mEventX mEventY mEventD mEvents mCrossingOf mBundle mEventOf mDegree mFrom mTo mCrossings mEdges mMet mUpper mLower mTape mTaped mPoint mEnd mBegin mFaultAt mFive mTold mActs mFar mViews mHullX mHullY mEndX mEndY mHeightUp mHeightLow mMeets mMeetsOf Rw) H → va_D (xsF X) (wM X mThrown mWorld mImage mDraft mEarlier mRemembered mHasImage mIsLaid y13 y14 y15 y16 y17 y18 mEventX mEventY mEventD mEvents mCrossingOf mBundle mEventOf mDegree mFrom mTo mCrossings mEdges mMet mUpper mLower mTape mTaped mPoint mEnd mBegin mFaultAt mFive mTold mActs mFar mViews mHullX mHullY mEndX mEndY mHeightUp mHeightLow mMeets mMeetsOf Rw) → va_S (xsF X) s.heap H locs → lv_has ls 6 [(3, .int y12)] → W p l e { frames := 5, cells := 0, slots := 0, locals := 141 } s m ([.ref (xsA X 100), .int a0] : List Value).toArray below meth c H locs 0 0 (MQ below Qq ([.ref (xsA X 100), .int a0] : List Value).toArray s 0 0 (xsF X)) (F0 m 80 ls []) := by
    intro y12 y13 y14 y15 y16 y17 y18 hf H locs ls hP hD hS hl
    unfold fX11_spreadOf_J80 at hf
    refine lv_iload_n hx hb dX11_spreadOf_80 rfl (lv_at hl 0 rfl) ?_
    have ho := Option.some.inj hf
    subst ho
    rw [hQq]
    exact xs_iret C hr hlk hP hD hS dX11_spreadOf_81
  replace hf := xsBd_use hf
  obtain ⟨r11, hk110, hf⟩ := hf
  have L11 : ∀ (sg : Int32 × Int32 × (Nat → Int32) × (Nat → Int32) × (Nat → Int32) × Int64 × Int64 × Int64) (rg : Int32 × (Nat → Int32) × (Nat → Int32) × (Nat → Int32) × Int64 × Int64 × Int64), xsWh (fun s11 => fX11_spreadOf_L11 mWorld o1 s11.1 s11.2.1 s11.2.2.1 s11.2.2.2.1 s11.2.2.2.2.1 s11.2.2.2.2.2.1 s11.2.2.2.2.2.2.1 s11.2.2.2.2.2.2.2) sg = some rg → (fX11_spreadOf_J80 rg.1 rg.2.1 rg.2.2.1 rg.2.2.2.1 rg.2.2.2.2.1 rg.2.2.2.2.2.1 rg.2.2.2.2.2.2 = some out → ∀ (H : Heap) (locs : List Loc) (ls : Array Slot), va_P (xsD X) vwCl (wM X mThrown mWorld mImage mDraft mEarlier mRemembered mHasImage mIsLaid sg.2.2.1 sg.2.2.2.1 sg.2.2.2.2.1 sg.2.2.2.2.2.1 sg.2.2.2.2.2.2.1 sg.2.2.2.2.2.2.2 mEventX mEventY mEventD mEvents mCrossingOf mBundle mEventOf mDegree mFrom mTo mCrossings mEdges mMet mUpper mLower mTape mTaped mPoint mEnd mBegin mFaultAt mFive mTold mActs mFar mViews mHullX mHullY mEndX mEndY mHeightUp mHeightLow mMeets mMeetsOf Rw) H → va_D (xsF X) (wM X mThrown mWorld mImage mDraft mEarlier mRemembered mHasImage mIsLaid sg.2.2.1 sg.2.2.2.1 sg.2.2.2.2.1 sg.2.2.2.2.2.1 sg.2.2.2.2.2.2.1 sg.2.2.2.2.2.2.2 mEventX mEventY mEventD mEvents mCrossingOf mBundle mEventOf mDegree mFrom mTo mCrossings mEdges mMet mUpper mLower mTape mTaped mPoint mEnd mBegin mFaultAt mFive mTold mActs mFar mViews mHullX mHullY mEndX mEndY mHeightUp mHeightLow mMeets mMeetsOf Rw) → va_S (xsF X) s.heap H locs → lv_has ls 6 [(0, .ref (xsA X 100)), (2, .int o1), (3, .int sg.1), (4, .int sg.2.1)] → W p l e { frames := 5, cells := 0, slots := 0, locals := 141 } s m ([.ref (xsA X 100), .int a0] : List Value).toArray below meth c H locs 0 0 (MQ below Qq ([.ref (xsA X 100), .int a0] : List Value).toArray s 0 0 (xsF X)) (F0 m 11 ls [])) := by
    refine xsWh_ind ?_
    intro sg r11 u11 hf ih11 hx11 hk11 H locs ls hP hD hS hl
    obtain ⟨y3, y4, y5, y6, y7, y8, y9, y10⟩ := sg
    replace hf : fX11_spreadOf_L11 mWorld o1 y3 y4 y5 y6 y7 y8 y9 y10 = some u11 := hf
    replace hl : lv_has ls 6 [(0, .ref (xsA X 100)), (2, .int o1), (3, .int y3), (4, .int y4)] := hl
    replace hP : va_P (xsD X) vwCl (wM X mThrown mWorld mImage mDraft mEarlier mRemembered mHasImage mIsLaid y5 y6 y7 y8 y9 y10 mEventX mEventY mEventD mEvents mCrossingOf mBundle mEventOf mDegree mFrom mTo mCrossings mEdges mMet mUpper mLower mTape mTaped mPoint mEnd mBegin mFaultAt mFive mTold mActs mFar mViews mHullX mHullY mEndX mEndY mHeightUp mHeightLow mMeets mMeetsOf Rw) H := hP
    replace hD : va_D (xsF X) (wM X mThrown mWorld mImage mDraft mEarlier mRemembered mHasImage mIsLaid y5 y6 y7 y8 y9 y10 mEventX mEventY mEventD mEvents mCrossingOf mBundle mEventOf mDegree mFrom mTo mCrossings mEdges mMet mUpper mLower mTape mTaped mPoint mEnd mBegin mFaultAt mFive mTold mActs mFar mViews mHullX mHullY mEndX mEndY mHeightUp mHeightLow mMeets mMeetsOf Rw) := hD
    unfold fX11_spreadOf_L11 at hf
    refine lv_iload hx hb dX11_spreadOf_11 (lv_at hl 3 rfl) ?_
    refine lv_aload_n hx hb dX11_spreadOf_13 rfl (lv_at hl 0 rfl) ?_
    replace hf := xsBd_use hf
    obtain ⟨o19, h20, hf⟩ := hf
    refine xs_calli hS (xs_runV (As := []) C (mX11_many l  h20) w_1581 w_1583 w_44 w_115 w_1584 hd_X11_many ⟨rfl, rfl, Nat.le_of_ble_eq_true rfl, Nat.le_of_ble_eq_true rfl, Nat.zero_le _, Nat.zero_le _⟩ hP hD hS lk_X11 rfl hl.1 rfl (Nat.le_of_ble_eq_true rfl) dX11_spreadOf_14) (fun H locs hP hD hS => ?_)
    refine lv_icmp_ge (tgt := 80) hx hb dX11_spreadOf_17 (by decide) (fun c60 => ?_) (fun c60 => ?_)
    · replace hf := xsBr_t c60 hf
      have ez := hx11 _ (Option.some.inj hf).symm
      subst ez
      exact K11 y3 y5 y6 y7 y8 y9 y10 hk11 H locs ls hP hD hS (lv_sub hl [2] rfl)
    · replace hf := xsBr_f c60 hf
      refine lv_iconst (v := (0 : Int32)) hx hb dX11_spreadOf_20 (by decide) ?_
      refine lv_istore (lv' := [(5, .int (0 : Int32)), (0, .ref (xsA X 100)), (2, .int o1), (3, .int y3), (4, .int y4)]) hx hb dX11_spreadOf_21 hl (by decide) rfl (fun ls hl => ?_)
      have K29 : ∀ (y30 : Int32) (y31 : Nat → Int32) (y32 : Nat → Int32) (y33 : Nat → Int32) (y34 : Int64) (y35 : Int64) (y36 : Int64) (hf : fX11_spreadOf_J74 y4 y30 y31 y32 y33 y34 y35 y36 = some u11) (H : Heap) (locs : List Loc) (ls : Array Slot), va_P (xsD X) vwCl (wM X mThrown mWorld mImage mDraft mEarlier mRemembered mHasImage mIsLaid y31 y32 y33 y34 y35 y36 mEventX mEventY mEventD mEvents mCrossingOf mBundle mEventOf mDegree mFrom mTo mCrossings mEdges mMet mUpper mLower mTape mTaped mPoint mEnd mBegin mFaultAt mFive mTold mActs mFar mViews mHullX mHullY mEndX mEndY mHeightUp mHeightLow mMeets mMeetsOf Rw) H → va_D (xsF X) (wM X mThrown mWorld mImage mDraft mEarlier mRemembered mHasImage mIsLaid y31 y32 y33 y34 y35 y36 mEventX mEventY mEventD mEvents mCrossingOf mBundle mEventOf mDegree mFrom mTo mCrossings mEdges mMet mUpper mLower mTape mTaped mPoint mEnd mBegin mFaultAt mFive mTold mActs mFar mViews mHullX mHullY mEndX mEndY mHeightUp mHeightLow mMeets mMeetsOf Rw) → va_S (xsF X) s.heap H locs → lv_has ls 6 [(0, .ref (xsA X 100)), (2, .int o1), (3, .int y30), (4, .int y4)] → W p l e { frames := 5, cells := 0, slots := 0, locals := 141 } s m ([.ref (xsA X 100), .int a0] : List Value).toArray below meth c H locs 0 0 (MQ below Qq ([.ref (xsA X 100), .int a0] : List Value).toArray s 0 0 (xsF X)) (F0 m 74 ls []) := by
        intro y30 y31 y32 y33 y34 y35 y36 hf H locs ls hP hD hS hl
        unfold fX11_spreadOf_J74 at hf
        obtain ⟨x37, ex37⟩ : ∃ y : Int32, y = y4 + (1 : Int32) := ⟨_, rfl⟩
        replace hf := xsLt_use ex37 hf
        refine lv_iinc (v := x37) (lv' := [(4, .int x37), (0, .ref (xsA X 100)), (2, .int o1), (3, .int y30)]) hx hb dX11_spreadOf_74 hl (k := 3) rfl (by rw [ex37]; rfl) (by decide) rfl (fun ls hl => ?_)
        refine lv_goto (tgt := 11) hx hb dX11_spreadOf_77 (by decide) ?_
        exact ih11 _ (Option.some.inj hf).symm hk11 H locs ls hP hD hS (lv_sub hl [1, 2, 3, 0] rfl)
      replace hf := xsBd_use hf
      obtain ⟨r29, hk290, hf⟩ := hf
      have L29 : ∀ (sg : Int32 × Int32 × (Nat → Int32) × (Nat → Int32) × (Nat → Int32) × Int64 × Int64 × Int64) (rg : Int32 × (Nat → Int32) × (Nat → Int32) × (Nat → Int32) × Int64 × Int64 × Int64), xsWh (fun s29 => fX11_spreadOf_L23 mWorld o1 y4 s29.1 s29.2.1 s29.2.2.1 s29.2.2.2.1 s29.2.2.2.2.1 s29.2.2.2.2.2.1 s29.2.2.2.2.2.2.1 s29.2.2.2.2.2.2.2) sg = some rg → (fX11_spreadOf_J74 y4 rg.1 rg.2.1 rg.2.2.1 rg.2.2.2.1 rg.2.2.2.2.1 rg.2.2.2.2.2.1 rg.2.2.2.2.2.2 = some u11 → ∀ (H : Heap) (locs : List Loc) (ls : Array Slot), va_P (xsD X) vwCl (wM X mThrown mWorld mImage mDraft mEarlier mRemembered mHasImage mIsLaid sg.2.2.1 sg.2.2.2.1 sg.2.2.2.2.1 sg.2.2.2.2.2.1 sg.2.2.2.2.2.2.1 sg.2.2.2.2.2.2.2 mEventX mEventY mEventD mEvents mCrossingOf mBundle mEventOf mDegree mFrom mTo mCrossings mEdges mMet mUpper mLower mTape mTaped mPoint mEnd mBegin mFaultAt mFive mTold mActs mFar mViews mHullX mHullY mEndX mEndY mHeightUp mHeightLow mMeets mMeetsOf Rw) H → va_D (xsF X) (wM X mThrown mWorld mImage mDraft mEarlier mRemembered mHasImage mIsLaid sg.2.2.1 sg.2.2.2.1 sg.2.2.2.2.1 sg.2.2.2.2.2.1 sg.2.2.2.2.2.2.1 sg.2.2.2.2.2.2.2 mEventX mEventY mEventD mEvents mCrossingOf mBundle mEventOf mDegree mFrom mTo mCrossings mEdges mMet mUpper mLower mTape mTaped mPoint mEnd mBegin mFaultAt mFive mTold mActs mFar mViews mHullX mHullY mEndX mEndY mHeightUp mHeightLow mMeets mMeetsOf Rw) → va_S (xsF X) s.heap H locs → lv_has ls 6 [(0, .ref (xsA X 100)), (2, .int o1), (3, .int sg.1), (4, .int y4), (5, .int sg.2.1)] → W p l e { frames := 5, cells := 0, slots := 0, locals := 141 } s m ([.ref (xsA X 100), .int a0] : List Value).toArray below meth c H locs 0 0 (MQ below Qq ([.ref (xsA X 100), .int a0] : List Value).toArray s 0 0 (xsF X)) (F0 m 23 ls [])) := by
        refine xsWh_ind ?_
        intro sg r29 u29 hf ih29 hx29 hk29 H locs ls hP hD hS hl
        obtain ⟨y21, y22, y23, y24, y25, y26, y27, y28⟩ := sg
        replace hf : fX11_spreadOf_L23 mWorld o1 y4 y21 y22 y23 y24 y25 y26 y27 y28 = some u29 := hf
        replace hl : lv_has ls 6 [(0, .ref (xsA X 100)), (2, .int o1), (3, .int y21), (4, .int y4), (5, .int y22)] := hl
        replace hP : va_P (xsD X) vwCl (wM X mThrown mWorld mImage mDraft mEarlier mRemembered mHasImage mIsLaid y23 y24 y25 y26 y27 y28 mEventX mEventY mEventD mEvents mCrossingOf mBundle mEventOf mDegree mFrom mTo mCrossings mEdges mMet mUpper mLower mTape mTaped mPoint mEnd mBegin mFaultAt mFive mTold mActs mFar mViews mHullX mHullY mEndX mEndY mHeightUp mHeightLow mMeets mMeetsOf Rw) H := hP
        replace hD : va_D (xsF X) (wM X mThrown mWorld mImage mDraft mEarlier mRemembered mHasImage mIsLaid y23 y24 y25 y26 y27 y28 mEventX mEventY mEventD mEvents mCrossingOf mBundle mEventOf mDegree mFrom mTo mCrossings mEdges mMet mUpper mLower mTape mTaped mPoint mEnd mBegin mFaultAt mFive mTold mActs mFar mViews mHullX mHullY mEndX mEndY mHeightUp mHeightLow mMeets mMeetsOf Rw) := hD
        unfold fX11_spreadOf_L23 at hf
        refine lv_iload hx hb dX11_spreadOf_23 (lv_at hl 4 rfl) ?_
        refine lv_iload hx hb dX11_spreadOf_25 (lv_at hl 3 rfl) ?_
        refine lv_icmp_ge (tgt := 74) hx hb dX11_spreadOf_27 (by decide) (fun c59 => ?_) (fun c59 => ?_)
        · replace hf := xsBr_t c59 hf
          have ez := hx29 _ (Option.some.inj hf).symm
          subst ez
          exact K29 y21 y23 y24 y25 y26 y27 y28 hk29 H locs ls hP hD hS (lv_sub hl [0, 1, 2, 3] rfl)
        · replace hf := xsBr_f c59 hf
          refine lv_iload_n hx hb dX11_spreadOf_30 rfl (lv_at hl 2 rfl) ?_
          refine lv_iload_n hx hb dX11_spreadOf_31 rfl (lv_at hl 1 rfl) ?_
          refine lv_iload hx hb dX11_spreadOf_32 (lv_at hl 3 rfl) ?_
          replace hf := xsBd_use hf
          obtain ⟨o38, h39, hf⟩ := hf
          refine xs_calli hS (xs_runS (As := [.int o1, .int y4]) C (mX11_holds l  h39) w_1700 w_1701 w_115 w_1702 hd_X11_holds ⟨rfl, rfl, Nat.le_of_ble_eq_true rfl, Nat.le_of_ble_eq_true rfl, Nat.zero_le _, Nat.zero_le _⟩ hP hD hS hl.1 rfl (Nat.le_of_ble_eq_true rfl) dX11_spreadOf_34) (fun H locs hP hD hS => ?_)
          have K51 : ∀ (y40 : Int32) (y41 : Nat → Int32) (y42 : Nat → Int32) (y43 : Nat → Int32) (y44 : Int64) (y45 : Int64) (y46 : Int64) (hf : fX11_spreadOf_J66 y21 y22 y40 y41 y42 y43 y44 y45 y46 = some u29) (H : Heap) (locs : List Loc) (ls : Array Slot), va_P (xsD X) vwCl (wM X mThrown mWorld mImage mDraft mEarlier mRemembered mHasImage mIsLaid y41 y42 y43 y44 y45 y46 mEventX mEventY mEventD mEvents mCrossingOf mBundle mEventOf mDegree mFrom mTo mCrossings mEdges mMet mUpper mLower mTape mTaped mPoint mEnd mBegin mFaultAt mFive mTold mActs mFar mViews mHullX mHullY mEndX mEndY mHeightUp mHeightLow mMeets mMeetsOf Rw) H → va_D (xsF X) (wM X mThrown mWorld mImage mDraft mEarlier mRemembered mHasImage mIsLaid y41 y42 y43 y44 y45 y46 mEventX mEventY mEventD mEvents mCrossingOf mBundle mEventOf mDegree mFrom mTo mCrossings mEdges mMet mUpper mLower mTape mTaped mPoint mEnd mBegin mFaultAt mFive mTold mActs mFar mViews mHullX mHullY mEndX mEndY mHeightUp mHeightLow mMeets mMeetsOf Rw) → va_S (xsF X) s.heap H locs → lv_has ls 6 [(0, .ref (xsA X 100)), (2, .int o1), (4, .int y4), (5, .int y22)] → W p l e { frames := 5, cells := 0, slots := 0, locals := 141 } s m ([.ref (xsA X 100), .int a0] : List Value).toArray below meth c H locs 0 0 (MQ below Qq ([.ref (xsA X 100), .int a0] : List Value).toArray s 0 0 (xsF X)) (F0 m 66 ls [.int y40, .int y21]) := by
            intro y40 y41 y42 y43 y44 y45 y46 hf H locs ls hP hD hS hl
            unfold fX11_spreadOf_J66 at hf
            refine lv_iadd hx hb dX11_spreadOf_66 ?_
            refine lv_topi (fun x47 ex47 => ?_)
            replace hf := xsLt_use ex47 hf
            refine lv_istore_n (lv' := [(3, .int x47), (0, .ref (xsA X 100)), (2, .int o1), (4, .int y4), (5, .int y22)]) hx hb dX11_spreadOf_67 rfl hl (by decide) rfl (fun ls hl => ?_)
            obtain ⟨x48, ex48⟩ : ∃ y : Int32, y = y22 + (1 : Int32) := ⟨_, rfl⟩
            replace hf := xsLt_use ex48 hf
            refine lv_iinc (v := x48) (lv' := [(5, .int x48), (3, .int x47), (0, .ref (xsA X 100)), (2, .int o1), (4, .int y4)]) hx hb dX11_spreadOf_68 hl (k := 4) rfl (by rw [ex48]; rfl) (by decide) rfl (fun ls hl => ?_)
            refine lv_goto (tgt := 23) hx hb dX11_spreadOf_71 (by decide) ?_
            exact ih29 _ (Option.some.inj hf).symm hk29 H locs ls hP hD hS (lv_sub hl [2, 3, 1, 4, 0] rfl)
          replace hf := xsBd_use hf
          obtain ⟨v49, hf, hk50⟩ := hf
          refine lv_if_eq (tgt := 65) hx hb dX11_spreadOf_37 (by decide) (fun c58 => ?_) (fun c58 => ?_)
          · replace hf := xsBr_t c58 hf
            refine lv_iconst (v := (0 : Int32)) hx hb dX11_spreadOf_65 (by decide) ?_
            have ev := Option.some.inj hf
            subst ev
            exact K51 (0 : Int32) y23 y24 y25 y26 y27 y28 hk50 H locs ls hP hD hS (lv_sub hl [0, 1, 3, 4] rfl)
          · replace hf := xsBr_f c58 hf
            refine lv_iload_n hx hb dX11_spreadOf_40 rfl (lv_at hl 1 rfl) ?_
            refine lv_iload hx hb dX11_spreadOf_41 (lv_at hl 4 rfl) ?_
            replace hf := xsBd_use hf
            obtain ⟨o52, h53, hf⟩ := hf
            refine xs_calli hS (xs_runS (As := [.int o1, .int y22]) C (mX11_holds l  h53) w_1700 w_1701 w_115 w_1702 hd_X11_holds ⟨rfl, rfl, Nat.le_of_ble_eq_true rfl, Nat.le_of_ble_eq_true rfl, Nat.zero_le _, Nat.zero_le _⟩ hP hD hS hl.1 rfl (Nat.le_of_ble_eq_true rfl) dX11_spreadOf_43) (fun H locs hP hD hS => ?_)
            refine lv_if_eq (tgt := 65) hx hb dX11_spreadOf_46 (by decide) (fun c57 => ?_) (fun c57 => ?_)
            · replace hf := xsBr_t c57 hf
              refine lv_iconst (v := (0 : Int32)) hx hb dX11_spreadOf_65 (by decide) ?_
              have ev := Option.some.inj hf
              subst ev
              exact K51 (0 : Int32) y23 y24 y25 y26 y27 y28 hk50 H locs ls hP hD hS (lv_sub hl [0, 1, 3, 4] rfl)
            · replace hf := xsBr_f c57 hf
              refine lv_aload_n hx hb dX11_spreadOf_49 rfl (lv_at hl 0 rfl) ?_
              refine lv_iload hx hb dX11_spreadOf_50 (lv_at hl 3 rfl) ?_
              refine lv_iload hx hb dX11_spreadOf_52 (lv_at hl 4 rfl) ?_
              replace hf := xsBd_use hf
              obtain ⟨o54, h55, hf⟩ := hf
              refine xs_calli hS (xs_runV (As := [.int y4, .int y22]) C (mX11_sharesOf l  h55) w_1657 w_1659 w_58 w_115 w_1660 hd_X11_sharesOf ⟨rfl, rfl, Nat.le_of_ble_eq_true rfl, Nat.le_of_ble_eq_true rfl, Nat.zero_le _, Nat.zero_le _⟩ hP hD hS lk_X11 rfl hl.1 rfl (Nat.le_of_ble_eq_true rfl) dX11_spreadOf_54) (fun H locs hP hD hS => ?_)
              refine lv_iconst (v := (1 : Int32)) hx hb dX11_spreadOf_57 (by decide) ?_
              refine lv_icmp_ne (tgt := 65) hx hb dX11_spreadOf_58 (by decide) (fun c56 => ?_) (fun c56 => ?_)
              · replace hf := xsBr_f c56 hf
                refine lv_iconst (v := (0 : Int32)) hx hb dX11_spreadOf_65 (by decide) ?_
                have ev := Option.some.inj hf
                subst ev
                exact K51 (0 : Int32) o54.2.1 o54.2.2.1 o54.2.2.2.1 o54.2.2.2.2.1 o54.2.2.2.2.2.1 o54.2.2.2.2.2.2 hk50 H locs ls hP hD hS (lv_sub hl [0, 1, 3, 4] rfl)
              · replace hf := xsBr_t c56 hf
                refine lv_iconst (v := (1 : Int32)) hx hb dX11_spreadOf_61 (by decide) ?_
                refine lv_goto (tgt := 66) hx hb dX11_spreadOf_62 (by decide) ?_
                have ev := Option.some.inj hf
                subst ev
                exact K51 (1 : Int32) o54.2.1 o54.2.2.1 o54.2.2.2.1 o54.2.2.2.2.1 o54.2.2.2.2.2.1 o54.2.2.2.2.2.2 hk50 H locs ls hP hD hS (lv_sub hl [0, 1, 3, 4] rfl)
      exact L29 (y3, (0 : Int32), y5, y6, y7, y8, y9, y10) r29 hk290 hf H locs ls hP hD hS (lv_sub hl [1, 2, 3, 4, 0] rfl)
  exact L11 ((0 : Int32), (0 : Int32), mOne, mTwo, mShare, mX, mY, mD) r11 hk110 hf H locs ls hP hD hS (lv_sub hl [3, 2, 1, 0] rfl)
set_option maxRecDepth 100000 in
set_option maxHeartbeats 8000000 in
theorem mX11_event (l : Launch) {X : xsX} {mThrown mRemembered mHasImage mIsLaid mEvents mCrossings mEdges mTaped mPoint mEnd mBegin mFaultAt mActs : Int32} {mWorld mImage mDraft mEarlier mOne mTwo mShare mCrossingOf mBundle mEventOf mDegree mFrom mTo mMet mTape mFive mTold mFar mViews mHullX mHullY mEndX mEndY mMeets mMeetsOf : Nat → Int32} {mX mY mD mHeightUp mHeightLow : Int64} {mEventX mEventY mEventD mUpper mLower : Nat → Int64} {Rw : va_W} {a0 : Int32} {a1 : Int32} {out : Int64 × Int32 × Int32 × (Nat → Int32) × (Nat → Int32) × (Nat → Int32) × Int64 × Int64 × Int64 × (Nat → Int64) × (Nat → Int64) × (Nat → Int64) × Int32 × (Nat → Int32) × (Nat → Int32) × (Nat → Int32) × (Nat → Int32) × (Nat → Int32) × (Nat → Int32) × Int32 × Int32} (hf : fX11_event mThrown mWorld mIsLaid mOne mTwo mShare mX mY mD mEventX mEventY mEventD mEvents mCrossingOf mBundle mEventOf mDegree mFrom mTo mCrossings mEdges a0 a1 = some out) : Met l yX11_event (xsWs yX11_event cX11_event 3 (some .long)) { frames := 7, cells := 0, slots := 0, locals := 185 } (xsP X (wM X mThrown mWorld mImage mDraft mEarlier mRemembered mHasImage mIsLaid mOne mTwo mShare mX mY mD mEventX mEventY mEventD mEvents mCrossingOf mBundle mEventOf mDegree mFrom mTo mCrossings mEdges mMet mUpper mLower mTape mTaped mPoint mEnd mBegin mFaultAt mFive mTold mActs mFar mViews mHullX mHullY mEndX mEndY mHeightUp mHeightLow mMeets mMeetsOf Rw) [.ref (xsA X 100), .int a0, .int a1]) (xsQl X out.1 (wM X out.2.1 mWorld mImage mDraft mEarlier mRemembered mHasImage out.2.2.1 out.2.2.2.1 out.2.2.2.2.1 out.2.2.2.2.2.1 out.2.2.2.2.2.2.1 out.2.2.2.2.2.2.2.1 out.2.2.2.2.2.2.2.2.1 out.2.2.2.2.2.2.2.2.2.1 out.2.2.2.2.2.2.2.2.2.2.1 out.2.2.2.2.2.2.2.2.2.2.2.1 out.2.2.2.2.2.2.2.2.2.2.2.2.1 out.2.2.2.2.2.2.2.2.2.2.2.2.2.1 out.2.2.2.2.2.2.2.2.2.2.2.2.2.2.1 out.2.2.2.2.2.2.2.2.2.2.2.2.2.2.2.1 out.2.2.2.2.2.2.2.2.2.2.2.2.2.2.2.2.1 out.2.2.2.2.2.2.2.2.2.2.2.2.2.2.2.2.2.1 out.2.2.2.2.2.2.2.2.2.2.2.2.2.2.2.2.2.2.1 out.2.2.2.2.2.2.2.2.2.2.2.2.2.2.2.2.2.2.2.1 out.2.2.2.2.2.2.2.2.2.2.2.2.2.2.2.2.2.2.2.2 mMet mUpper mLower mTape mTaped mPoint mEnd mBegin mFaultAt mFive mTold mActs mFar mViews mHullX mHullY mEndX mEndY mHeightUp mHeightLow mMeets mMeetsOf Rw)) 0 0 (xsF X) := by
  refine xs_meth RX11 (by decide) rfl (Nat.le_of_ble_eq_true rfl) ?_
  intro p e s m below meth c ls H locs C hP hD hS hr hlk hl
  have hx := C.1
  have hb := C.2.1
  have hl : lv_has ls 3 [(0, .ref (xsA X 100)), (1, .int a0), (2, .int a1)] := hl
  obtain ⟨Qq, hQq⟩ : ∃ Qq, Qq = xsQl X out.1 (wM X out.2.1 mWorld mImage mDraft mEarlier mRemembered mHasImage out.2.2.1 out.2.2.2.1 out.2.2.2.2.1 out.2.2.2.2.2.1 out.2.2.2.2.2.2.1 out.2.2.2.2.2.2.2.1 out.2.2.2.2.2.2.2.2.1 out.2.2.2.2.2.2.2.2.2.1 out.2.2.2.2.2.2.2.2.2.2.1 out.2.2.2.2.2.2.2.2.2.2.2.1 out.2.2.2.2.2.2.2.2.2.2.2.2.1 out.2.2.2.2.2.2.2.2.2.2.2.2.2.1 out.2.2.2.2.2.2.2.2.2.2.2.2.2.2.1 out.2.2.2.2.2.2.2.2.2.2.2.2.2.2.2.1 out.2.2.2.2.2.2.2.2.2.2.2.2.2.2.2.2.1 out.2.2.2.2.2.2.2.2.2.2.2.2.2.2.2.2.2.1 out.2.2.2.2.2.2.2.2.2.2.2.2.2.2.2.2.2.2.1 out.2.2.2.2.2.2.2.2.2.2.2.2.2.2.2.2.2.2.2.1 out.2.2.2.2.2.2.2.2.2.2.2.2.2.2.2.2.2.2.2.2 mMet mUpper mLower mTape mTaped mPoint mEnd mBegin mFaultAt mFive mTold mActs mFar mViews mHullX mHullY mEndX mEndY mHeightUp mHeightLow mMeets mMeetsOf Rw) := ⟨_, rfl⟩
  rw [← hQq]
  unfold fX11_event at hf
  refine lv_aload_n hx hb dX11_event_0 rfl (lv_at hl 0 rfl) ?_
  refine lv_iload_n hx hb dX11_event_1 rfl (lv_at hl 1 rfl) ?_
  replace hf := xsBd_use hf
  obtain ⟨o1, h2, hf⟩ := hf
  refine xs_calli hS (xs_runV (As := [.int a0]) C (mX11_noEvent l  h2) w_1794 w_1796 w_76 w_115 w_1797 hd_X11_noEvent ⟨rfl, rfl, Nat.le_of_ble_eq_true rfl, Nat.le_of_ble_eq_true rfl, Nat.zero_le _, Nat.zero_le _⟩ hP hD hS lk_X11 rfl hl.1 rfl (Nat.le_of_ble_eq_true rfl) dX11_event_2) (fun H locs hP hD hS => ?_)
  refine lv_if_ne (tgt := 33) hx hb dX11_event_5 (by decide) (fun c29 => ?_) (fun c29 => ?_)
  · replace hf := xsBr_f c29 hf
    refine lv_lconst (v := (0 : Int64)) hx hb dX11_event_33 (by decide) ?_
    have ho := Option.some.inj hf
    subst ho
    rw [hQq]
    exact xs_lret C hr hlk hP hD hS dX11_event_34
  · replace hf := xsBr_t c29 hf
    refine lv_aload_n hx hb dX11_event_8 rfl (lv_at hl 0 rfl) ?_
    refine lv_iload_n hx hb dX11_event_9 rfl (lv_at hl 2 rfl) ?_
    refine lv_i2l hx hb dX11_event_10 rfl ?_
    refine lv_lconst (v := (0 : Int64)) hx hb dX11_event_11 (by decide) ?_
    refine lv_ldc2 (v := (9 : Int64)) hx hb C.2.2.2.1 (xs_kts C _ w_1798) dX11_event_12 ?_
    replace hf := xsBd_use hf
    obtain ⟨o3, h4, hf⟩ := hf
    refine xs_calli hS (xs_runS (As := [.long a1.toInt64, .long (0 : Int64), .long (9 : Int64)]) C (mX11_in l  h4) w_1573 w_1574 w_115 w_1575 hd_X11_in ⟨rfl, rfl, Nat.le_of_ble_eq_true rfl, Nat.le_of_ble_eq_true rfl, Nat.zero_le _, Nat.zero_le _⟩ hP hD hS hl.1 rfl (Nat.le_of_ble_eq_true rfl) dX11_event_15) (fun H locs hP hD hS => ?_)
    have K27 : ∀ (y5 : Int32) (hf : fX11_event_J26 mWorld a0 a1 o1 y5 = some out) (H : Heap) (locs : List Loc) (ls : Array Slot), va_P (xsD X) vwCl (wM X o1.2.1 mWorld mImage mDraft mEarlier mRemembered mHasImage o1.2.2.1 o1.2.2.2.1 o1.2.2.2.2.1 o1.2.2.2.2.2.1 o1.2.2.2.2.2.2.1 o1.2.2.2.2.2.2.2.1 o1.2.2.2.2.2.2.2.2.1 o1.2.2.2.2.2.2.2.2.2.1 o1.2.2.2.2.2.2.2.2.2.2.1 o1.2.2.2.2.2.2.2.2.2.2.2.1 o1.2.2.2.2.2.2.2.2.2.2.2.2.1 o1.2.2.2.2.2.2.2.2.2.2.2.2.2.1 o1.2.2.2.2.2.2.2.2.2.2.2.2.2.2.1 o1.2.2.2.2.2.2.2.2.2.2.2.2.2.2.2.1 o1.2.2.2.2.2.2.2.2.2.2.2.2.2.2.2.2.1 o1.2.2.2.2.2.2.2.2.2.2.2.2.2.2.2.2.2.1 o1.2.2.2.2.2.2.2.2.2.2.2.2.2.2.2.2.2.2.1 o1.2.2.2.2.2.2.2.2.2.2.2.2.2.2.2.2.2.2.2.1 o1.2.2.2.2.2.2.2.2.2.2.2.2.2.2.2.2.2.2.2.2 mMet mUpper mLower mTape mTaped mPoint mEnd mBegin mFaultAt mFive mTold mActs mFar mViews mHullX mHullY mEndX mEndY mHeightUp mHeightLow mMeets mMeetsOf Rw) H → va_D (xsF X) (wM X o1.2.1 mWorld mImage mDraft mEarlier mRemembered mHasImage o1.2.2.1 o1.2.2.2.1 o1.2.2.2.2.1 o1.2.2.2.2.2.1 o1.2.2.2.2.2.2.1 o1.2.2.2.2.2.2.2.1 o1.2.2.2.2.2.2.2.2.1 o1.2.2.2.2.2.2.2.2.2.1 o1.2.2.2.2.2.2.2.2.2.2.1 o1.2.2.2.2.2.2.2.2.2.2.2.1 o1.2.2.2.2.2.2.2.2.2.2.2.2.1 o1.2.2.2.2.2.2.2.2.2.2.2.2.2.1 o1.2.2.2.2.2.2.2.2.2.2.2.2.2.2.1 o1.2.2.2.2.2.2.2.2.2.2.2.2.2.2.2.1 o1.2.2.2.2.2.2.2.2.2.2.2.2.2.2.2.2.1 o1.2.2.2.2.2.2.2.2.2.2.2.2.2.2.2.2.2.1 o1.2.2.2.2.2.2.2.2.2.2.2.2.2.2.2.2.2.2.1 o1.2.2.2.2.2.2.2.2.2.2.2.2.2.2.2.2.2.2.2.1 o1.2.2.2.2.2.2.2.2.2.2.2.2.2.2.2.2.2.2.2.2 mMet mUpper mLower mTape mTaped mPoint mEnd mBegin mFaultAt mFive mTold mActs mFar mViews mHullX mHullY mEndX mEndY mHeightUp mHeightLow mMeets mMeetsOf Rw) → va_S (xsF X) s.heap H locs → lv_has ls 3 [(0, .ref (xsA X 100)), (1, .int a0), (2, .int a1)] → W p l e { frames := 7, cells := 0, slots := 0, locals := 185 } s m ([.ref (xsA X 100), .int a0, .int a1] : List Value).toArray below meth c H locs 0 0 (MQ below Qq ([.ref (xsA X 100), .int a0, .int a1] : List Value).toArray s 0 0 (xsF X)) (F0 m 26 ls [.int y5, .ref (xsA X 100)]) := by
      intro y5 hf H locs ls hP hD hS hl
      unfold fX11_event_J26 at hf
      refine lv_iconst (v := (2 : Int32)) hx hb dX11_event_26 (by decide) ?_
      replace hf := xsBd_use hf
      obtain ⟨o6, h7, hf⟩ := hf
      refine xs_calli hS (xs_runV (As := [.int y5, .int (2 : Int32)]) C (mX11_throwsIf l  h7) w_1502 w_1504 w_33 w_115 w_1505 hd_X11_throwsIf ⟨rfl, rfl, Nat.le_of_ble_eq_true rfl, Nat.le_of_ble_eq_true rfl, Nat.zero_le _, Nat.zero_le _⟩ hP hD hS lk_X11 rfl hl.1 rfl (Nat.le_of_ble_eq_true rfl) dX11_event_27) (fun H locs hP hD hS => ?_)
      refine lv_if_eq (tgt := 35) hx hb dX11_event_30 (by decide) (fun c24 => ?_) (fun c24 => ?_)
      · replace hf := xsBr_t c24 hf
        refine lv_iload_n hx hb dX11_event_35 rfl (lv_at hl 2 rfl) ?_
        by_cases c23_0 : a1 = 4
        · replace hf := xsBr_t c23_0 hf
          refine lv_tableIn (tgt := 76) hx hb dX11_event_36 (by rw [c23_0]; decide) (by rw [c23_0]; decide) (by rw [c23_0]; rfl) (by decide) ?_
          refine lv_aload_n hx hb dX11_event_76 rfl (lv_at hl 0 rfl) ?_
          refine lv_iload_n hx hb dX11_event_77 rfl (lv_at hl 1 rfl) ?_
          refine lv_iconst (v := (1 : Int32)) hx hb dX11_event_78 (by decide) ?_
          replace hf := xsBd_use hf
          obtain ⟨o8, h9, hf⟩ := hf
          refine xs_calli hS (xs_runV (As := [.int a0, .int (1 : Int32)]) C (mX11_endsAt l  h9) w_1799 w_1801 w_77 w_115 w_1802 hd_X11_endsAt ⟨rfl, rfl, Nat.le_of_ble_eq_true rfl, Nat.le_of_ble_eq_true rfl, Nat.zero_le _, Nat.zero_le _⟩ hP hD hS lk_X11 rfl hl.1 rfl (Nat.le_of_ble_eq_true rfl) dX11_event_79) (fun H locs hP hD hS => ?_)
          refine lv_i2l hx hb dX11_event_82 rfl ?_
          have ho := Option.some.inj hf
          subst ho
          rw [hQq]
          exact xs_lret C hr hlk hP hD hS dX11_event_83
        replace hf := xsBr_f c23_0 hf
        by_cases c23_1 : a1 = 5
        · replace hf := xsBr_t c23_1 hf
          refine lv_tableIn (tgt := 84) hx hb dX11_event_36 (by rw [c23_1]; decide) (by rw [c23_1]; decide) (by rw [c23_1]; rfl) (by decide) ?_
          refine lv_aload_n hx hb dX11_event_84 rfl (lv_at hl 0 rfl) ?_
          refine lv_iload_n hx hb dX11_event_85 rfl (lv_at hl 1 rfl) ?_
          refine lv_iconst (v := (0 : Int32)) hx hb dX11_event_86 (by decide) ?_
          replace hf := xsBd_use hf
          obtain ⟨o10, h11, hf⟩ := hf
          refine xs_calli hS (xs_runV (As := [.int a0, .int (0 : Int32)]) C (mX11_endsAt l  h11) w_1799 w_1801 w_77 w_115 w_1802 hd_X11_endsAt ⟨rfl, rfl, Nat.le_of_ble_eq_true rfl, Nat.le_of_ble_eq_true rfl, Nat.zero_le _, Nat.zero_le _⟩ hP hD hS lk_X11 rfl hl.1 rfl (Nat.le_of_ble_eq_true rfl) dX11_event_87) (fun H locs hP hD hS => ?_)
          refine lv_i2l hx hb dX11_event_90 rfl ?_
          have ho := Option.some.inj hf
          subst ho
          rw [hQq]
          exact xs_lret C hr hlk hP hD hS dX11_event_91
        replace hf := xsBr_f c23_1 hf
        by_cases c23_2 : a1 = 6
        · replace hf := xsBr_t c23_2 hf
          refine lv_tableIn (tgt := 92) hx hb dX11_event_36 (by rw [c23_2]; decide) (by rw [c23_2]; decide) (by rw [c23_2]; rfl) (by decide) ?_
          refine lv_aload_n hx hb dX11_event_92 rfl (lv_at hl 0 rfl) ?_
          refine lv_iload_n hx hb dX11_event_93 rfl (lv_at hl 1 rfl) ?_
          replace hf := xsBd_use hf
          obtain ⟨o12, h13, hf⟩ := hf
          refine xs_calli hS (xs_runV (As := [.int a0]) C (mX11_within l  h13) w_1811 w_1813 w_80 w_115 w_1814 hd_X11_within ⟨rfl, rfl, Nat.le_of_ble_eq_true rfl, Nat.le_of_ble_eq_true rfl, Nat.zero_le _, Nat.zero_le _⟩ hP hD hS lk_X11 rfl hl.1 rfl (Nat.le_of_ble_eq_true rfl) dX11_event_94) (fun H locs hP hD hS => ?_)
          refine lv_i2l hx hb dX11_event_97 rfl ?_
          have ho := Option.some.inj hf
          subst ho
          rw [hQq]
          exact xs_lret C hr hlk hP hD hS dX11_event_98
        replace hf := xsBr_f c23_2 hf
        by_cases c23_3 : a1 = 7
        · replace hf := xsBr_t c23_3 hf
          refine lv_tableIn (tgt := 99) hx hb dX11_event_36 (by rw [c23_3]; decide) (by rw [c23_3]; decide) (by rw [c23_3]; rfl) (by decide) ?_
          refine lv_aload_n hx hb dX11_event_99 rfl (lv_at hl 0 rfl) ?_
          refine xg_X11_45 C hP dX11_event_100 ?_
          refine lv_iload_n hx hb dX11_event_103 rfl (lv_at hl 1 rfl) ?_
          replace hf := xsCk_use hf
          obtain ⟨h14, hf⟩ := hf
          refine xl_mCrossingOf C hP h14 dX11_event_104 ?_
          refine lv_i2l hx hb dX11_event_105 rfl ?_
          have ho := Option.some.inj hf
          subst ho
          rw [hQq]
          exact xs_lret C hr hlk hP hD hS dX11_event_106
        replace hf := xsBr_f c23_3 hf
        by_cases c23_4 : a1 = 8
        · replace hf := xsBr_t c23_4 hf
          refine lv_tableIn (tgt := 107) hx hb dX11_event_36 (by rw [c23_4]; decide) (by rw [c23_4]; decide) (by rw [c23_4]; rfl) (by decide) ?_
          refine lv_aload_n hx hb dX11_event_107 rfl (lv_at hl 0 rfl) ?_
          refine lv_iload_n hx hb dX11_event_108 rfl (lv_at hl 1 rfl) ?_
          replace hf := xsBd_use hf
          obtain ⟨o15, h16, hf⟩ := hf
          refine xs_calli hS (xs_runV (As := [.int a0]) C (mX11_spreadOf l  h16) w_1815 w_1817 w_81 w_115 w_1818 hd_X11_spreadOf ⟨rfl, rfl, Nat.le_of_ble_eq_true rfl, Nat.le_of_ble_eq_true rfl, Nat.zero_le _, Nat.zero_le _⟩ hP hD hS lk_X11 rfl hl.1 rfl (Nat.le_of_ble_eq_true rfl) dX11_event_109) (fun H locs hP hD hS => ?_)
          refine lv_i2l hx hb dX11_event_112 rfl ?_
          have ho := Option.some.inj hf
          subst ho
          rw [hQq]
          exact xs_lret C hr hlk hP hD hS dX11_event_113
        replace hf := xsBr_f c23_4 hf
        by_cases c23_5 : a1 = 9
        · replace hf := xsBr_t c23_5 hf
          refine lv_tableIn (tgt := 114) hx hb dX11_event_36 (by rw [c23_5]; decide) (by rw [c23_5]; decide) (by rw [c23_5]; rfl) (by decide) ?_
          refine lv_aload_n hx hb dX11_event_114 rfl (lv_at hl 0 rfl) ?_
          refine xg_X11_54 C hP dX11_event_115 ?_
          refine lv_iload_n hx hb dX11_event_118 rfl (lv_at hl 1 rfl) ?_
          replace hf := xsCk_use hf
          obtain ⟨h17, hf⟩ := hf
          refine xl_mDegree C hP h17 dX11_event_119 ?_
          refine lv_i2l hx hb dX11_event_120 rfl ?_
          have ho := Option.some.inj hf
          subst ho
          rw [hQq]
          exact xs_lret C hr hlk hP hD hS dX11_event_121
        replace hf := xsBr_f c23_5 hf
        refine lv_tableOut (tgt := 122) hx hb dX11_event_36 (xs_swo [4, 5, 6, 7, 8, 9] (by decide) ⟨c23_0, c23_1, c23_2, c23_3, c23_4, c23_5, trivial⟩) (by decide) ?_
        refine lv_aload_n hx hb dX11_event_122 rfl (lv_at hl 0 rfl) ?_
        refine xg_X11_35 C hP dX11_event_123 ?_
        refine lv_iload_n hx hb dX11_event_126 rfl (lv_at hl 1 rfl) ?_
        replace hf := xsCk_use hf
        obtain ⟨h18, hf⟩ := hf
        refine xl_mEventX C hP h18 dX11_event_127 ?_
        refine lv_aload_n hx hb dX11_event_128 rfl (lv_at hl 0 rfl) ?_
        refine xg_X11_39 C hP dX11_event_129 ?_
        refine lv_iload_n hx hb dX11_event_132 rfl (lv_at hl 1 rfl) ?_
        replace hf := xsCk_use hf
        obtain ⟨h19, hf⟩ := hf
        refine xl_mEventY C hP h19 dX11_event_133 ?_
        refine lv_aload_n hx hb dX11_event_134 rfl (lv_at hl 0 rfl) ?_
        refine xg_X11_42 C hP dX11_event_135 ?_
        refine lv_iload_n hx hb dX11_event_138 rfl (lv_at hl 1 rfl) ?_
        replace hf := xsCk_use hf
        obtain ⟨h20, hf⟩ := hf
        refine xl_mEventD C hP h20 dX11_event_139 ?_
        refine lv_iload_n hx hb dX11_event_140 rfl (lv_at hl 2 rfl) ?_
        replace hf := xsBd_use hf
        obtain ⟨o21, h22, hf⟩ := hf
        refine xs_calll hS (xs_runS (As := [.long (o1.2.2.2.2.2.2.2.2.2.1 a0.toNatClampNeg), .long (o1.2.2.2.2.2.2.2.2.2.2.1 a0.toNatClampNeg), .long (o1.2.2.2.2.2.2.2.2.2.2.2.1 a0.toNatClampNeg), .int a1]) C (mX11_partOfPoint l  h22) w_1764 w_1765 w_115 w_1766 hd_X11_partOfPoint ⟨rfl, rfl, Nat.le_of_ble_eq_true rfl, Nat.le_of_ble_eq_true rfl, Nat.zero_le _, Nat.zero_le _⟩ hP hD hS hl.1 rfl (Nat.le_of_ble_eq_true rfl) dX11_event_141) (fun H locs hP hD hS => ?_)
        have ho := Option.some.inj hf
        subst ho
        rw [hQq]
        exact xs_lret C hr hlk hP hD hS dX11_event_144
      · replace hf := xsBr_f c24 hf
        refine lv_lconst (v := (0 : Int64)) hx hb dX11_event_33 (by decide) ?_
        have ho := Option.some.inj hf
        subst ho
        rw [hQq]
        exact xs_lret C hr hlk hP hD hS dX11_event_34
    replace hf := xsBd_use hf
    obtain ⟨v25, hf, hk26⟩ := hf
    refine lv_if_ne (tgt := 25) hx hb dX11_event_18 (by decide) (fun c28 => ?_) (fun c28 => ?_)
    · replace hf := xsBr_f c28 hf
      refine lv_iconst (v := (0 : Int32)) hx hb dX11_event_25 (by decide) ?_
      have ev := Option.some.inj hf
      subst ev
      exact K27 (0 : Int32) hk26 H locs ls hP hD hS (lv_sub hl [0, 1, 2] rfl)
    · replace hf := xsBr_t c28 hf
      refine lv_iconst (v := (1 : Int32)) hx hb dX11_event_21 (by decide) ?_
      refine lv_goto (tgt := 26) hx hb dX11_event_22 (by decide) ?_
      have ev := Option.some.inj hf
      subst ev
      exact K27 (1 : Int32) hk26 H locs ls hP hD hS (lv_sub hl [0, 1, 2] rfl)
set_option maxRecDepth 100000 in
set_option maxHeartbeats 8000000 in
theorem mX11_status (l : Launch) {X : xsX} {mThrown mRemembered mHasImage mIsLaid mEvents mCrossings mEdges mTaped mPoint mEnd mBegin mFaultAt mActs : Int32} {mWorld mImage mDraft mEarlier mOne mTwo mShare mCrossingOf mBundle mEventOf mDegree mFrom mTo mMet mTape mFive mTold mFar mViews mHullX mHullY mEndX mEndY mMeets mMeetsOf : Nat → Int32} {mX mY mD mHeightUp mHeightLow : Int64} {mEventX mEventY mEventD mUpper mLower : Nat → Int64} {Rw : va_W} {a0 : Int32} {a1 : Int32} {out : Int32 × Int32 × Int32 × (Nat → Int32) × (Nat → Int32) × (Nat → Int32) × Int64 × Int64 × Int64 × (Nat → Int64) × (Nat → Int64) × (Nat → Int64) × Int32 × (Nat → Int32) × (Nat → Int32) × (Nat → Int32) × (Nat → Int32) × (Nat → Int32) × (Nat → Int32) × Int32 × Int32 × (Nat → Int32) × (Nat → Int64) × (Nat → Int64)} (hf : fX11_status mThrown mWorld mIsLaid mOne mTwo mShare mX mY mD mEventX mEventY mEventD mEvents mCrossingOf mBundle mEventOf mDegree mFrom mTo mCrossings mEdges mMet mUpper mLower a0 a1 = some out) : Met l yX11_status (xsWs yX11_status cX11_status 4 (some .int)) { frames := 7, cells := 0, slots := 0, locals := 185 } (xsP X (wM X mThrown mWorld mImage mDraft mEarlier mRemembered mHasImage mIsLaid mOne mTwo mShare mX mY mD mEventX mEventY mEventD mEvents mCrossingOf mBundle mEventOf mDegree mFrom mTo mCrossings mEdges mMet mUpper mLower mTape mTaped mPoint mEnd mBegin mFaultAt mFive mTold mActs mFar mViews mHullX mHullY mEndX mEndY mHeightUp mHeightLow mMeets mMeetsOf Rw) [.ref (xsA X 100), .int a0, .int a1]) (xsQi X out.1 (wM X out.2.1 mWorld mImage mDraft mEarlier mRemembered mHasImage out.2.2.1 out.2.2.2.1 out.2.2.2.2.1 out.2.2.2.2.2.1 out.2.2.2.2.2.2.1 out.2.2.2.2.2.2.2.1 out.2.2.2.2.2.2.2.2.1 out.2.2.2.2.2.2.2.2.2.1 out.2.2.2.2.2.2.2.2.2.2.1 out.2.2.2.2.2.2.2.2.2.2.2.1 out.2.2.2.2.2.2.2.2.2.2.2.2.1 out.2.2.2.2.2.2.2.2.2.2.2.2.2.1 out.2.2.2.2.2.2.2.2.2.2.2.2.2.2.1 out.2.2.2.2.2.2.2.2.2.2.2.2.2.2.2.1 out.2.2.2.2.2.2.2.2.2.2.2.2.2.2.2.2.1 out.2.2.2.2.2.2.2.2.2.2.2.2.2.2.2.2.2.1 out.2.2.2.2.2.2.2.2.2.2.2.2.2.2.2.2.2.2.1 out.2.2.2.2.2.2.2.2.2.2.2.2.2.2.2.2.2.2.2.1 out.2.2.2.2.2.2.2.2.2.2.2.2.2.2.2.2.2.2.2.2.1 out.2.2.2.2.2.2.2.2.2.2.2.2.2.2.2.2.2.2.2.2.2.1 out.2.2.2.2.2.2.2.2.2.2.2.2.2.2.2.2.2.2.2.2.2.2.1 out.2.2.2.2.2.2.2.2.2.2.2.2.2.2.2.2.2.2.2.2.2.2.2 mTape mTaped mPoint mEnd mBegin mFaultAt mFive mTold mActs mFar mViews mHullX mHullY mEndX mEndY mHeightUp mHeightLow mMeets mMeetsOf Rw)) 0 0 (xsF X) := by
  refine xs_meth RX11 (by decide) rfl (Nat.le_of_ble_eq_true rfl) ?_
  intro p e s m below meth c ls H locs C hP hD hS hr hlk hl
  have hx := C.1
  have hb := C.2.1
  have hl : lv_has ls 4 [(0, .ref (xsA X 100)), (1, .int a0), (2, .int a1)] := hl
  obtain ⟨Qq, hQq⟩ : ∃ Qq, Qq = xsQi X out.1 (wM X out.2.1 mWorld mImage mDraft mEarlier mRemembered mHasImage out.2.2.1 out.2.2.2.1 out.2.2.2.2.1 out.2.2.2.2.2.1 out.2.2.2.2.2.2.1 out.2.2.2.2.2.2.2.1 out.2.2.2.2.2.2.2.2.1 out.2.2.2.2.2.2.2.2.2.1 out.2.2.2.2.2.2.2.2.2.2.1 out.2.2.2.2.2.2.2.2.2.2.2.1 out.2.2.2.2.2.2.2.2.2.2.2.2.1 out.2.2.2.2.2.2.2.2.2.2.2.2.2.1 out.2.2.2.2.2.2.2.2.2.2.2.2.2.2.1 out.2.2.2.2.2.2.2.2.2.2.2.2.2.2.2.1 out.2.2.2.2.2.2.2.2.2.2.2.2.2.2.2.2.1 out.2.2.2.2.2.2.2.2.2.2.2.2.2.2.2.2.2.1 out.2.2.2.2.2.2.2.2.2.2.2.2.2.2.2.2.2.2.1 out.2.2.2.2.2.2.2.2.2.2.2.2.2.2.2.2.2.2.2.1 out.2.2.2.2.2.2.2.2.2.2.2.2.2.2.2.2.2.2.2.2.1 out.2.2.2.2.2.2.2.2.2.2.2.2.2.2.2.2.2.2.2.2.2.1 out.2.2.2.2.2.2.2.2.2.2.2.2.2.2.2.2.2.2.2.2.2.2.1 out.2.2.2.2.2.2.2.2.2.2.2.2.2.2.2.2.2.2.2.2.2.2.2 mTape mTaped mPoint mEnd mBegin mFaultAt mFive mTold mActs mFar mViews mHullX mHullY mEndX mEndY mHeightUp mHeightLow mMeets mMeetsOf Rw) := ⟨_, rfl⟩
  rw [← hQq]
  unfold fX11_status at hf
  refine lv_aload_n hx hb dX11_status_0 rfl (lv_at hl 0 rfl) ?_
  refine lv_iload_n hx hb dX11_status_1 rfl (lv_at hl 1 rfl) ?_
  replace hf := xsBd_use hf
  obtain ⟨o1, h2, hf⟩ := hf
  refine xs_calli hS (xs_runV (As := [.int a0]) C (mX11_noEvent l  h2) w_1794 w_1796 w_76 w_115 w_1797 hd_X11_noEvent ⟨rfl, rfl, Nat.le_of_ble_eq_true rfl, Nat.le_of_ble_eq_true rfl, Nat.zero_le _, Nat.zero_le _⟩ hP hD hS lk_X11 rfl hl.1 rfl (Nat.le_of_ble_eq_true rfl) dX11_status_2) (fun H locs hP hD hS => ?_)
  refine lv_if_eq (tgt := 10) hx hb dX11_status_5 (by decide) (fun c10 => ?_) (fun c10 => ?_)
  · replace hf := xsBr_t c10 hf
    refine lv_aload_n hx hb dX11_status_10 rfl (lv_at hl 0 rfl) ?_
    refine lv_iload_n hx hb dX11_status_11 rfl (lv_at hl 1 rfl) ?_
    replace hf := xsBd_use hf
    obtain ⟨o3, h4, hf⟩ := hf
    refine xs_calli hS (xs_runV (As := [.int a0]) C (mX11_laysStatus l  h4) w_1823 w_1825 w_82 w_115 w_1826 hd_X11_laysStatus ⟨rfl, rfl, Nat.le_of_ble_eq_true rfl, Nat.le_of_ble_eq_true rfl, Nat.zero_le _, Nat.zero_le _⟩ hP hD hS lk_X11 rfl hl.1 rfl (Nat.le_of_ble_eq_true rfl) dX11_status_12) (fun H locs hP hD hS => ?_)
    refine lv_istore_n (lv' := [(3, .int o3.1), (0, .ref (xsA X 100)), (1, .int a0), (2, .int a1)]) hx hb dX11_status_15 rfl hl (by decide) rfl (fun ls hl => ?_)
    refine lv_iload_n hx hb dX11_status_16 rfl (lv_at hl 3 rfl) ?_
    refine lv_iconst (v := (-1 : Int32)) hx hb dX11_status_17 (by decide) ?_
    refine lv_icmp_ne (tgt := 25) hx hb dX11_status_18 (by decide) (fun c9 => ?_) (fun c9 => ?_)
    · replace hf := xsBr_f c9 hf
      refine lv_iload_n hx hb dX11_status_25 rfl (lv_at hl 3 rfl) ?_
      refine lv_i2l hx hb dX11_status_26 rfl ?_
      refine lv_lconst (v := (0 : Int64)) hx hb dX11_status_27 (by decide) ?_
      refine lv_iload_n hx hb dX11_status_28 rfl (lv_at hl 0 rfl) ?_
      refine lv_iconst (v := (1 : Int32)) hx hb dX11_status_29 (by decide) ?_
      refine lv_isub hx hb dX11_status_30 ?_
      refine lv_i2l hx hb dX11_status_31 rfl ?_
      replace hf := xsBd_use hf
      obtain ⟨o5, h6, hf⟩ := hf
      refine xs_calli hS (xs_runS (As := [.long a1.toInt64, .long (0 : Int64), .long (o3.1 - (1 : Int32)).toInt64]) C (mX11_in l  h6) w_1573 w_1574 w_115 w_1575 hd_X11_in ⟨rfl, rfl, Nat.le_of_ble_eq_true rfl, Nat.le_of_ble_eq_true rfl, Nat.zero_le _, Nat.zero_le _⟩ hP hD hS hl.1 rfl (Nat.le_of_ble_eq_true rfl) dX11_status_32) (fun H locs hP hD hS => ?_)
      refine lv_if_eq (tgt := 47) hx hb dX11_status_35 (by decide) (fun c8 => ?_) (fun c8 => ?_)
      · replace hf := xsBr_t c8 hf
        refine lv_iconst (v := (-1 : Int32)) hx hb dX11_status_47 (by decide) ?_
        have ho := Option.some.inj hf
        subst ho
        rw [hQq]
        exact xs_iret C hr hlk hP hD hS dX11_status_48
      · replace hf := xsBr_f c8 hf
        refine lv_aload_n hx hb dX11_status_38 rfl (lv_at hl 1 rfl) ?_
        refine xg_X11_63 C hP dX11_status_39 ?_
        refine lv_iload_n hx hb dX11_status_42 rfl (lv_at hl 3 rfl) ?_
        replace hf := xsCk_use hf
        obtain ⟨h7, hf⟩ := hf
        refine xl_mMet C hP h7 dX11_status_43 ?_
        refine lv_goto (tgt := 48) hx hb dX11_status_44 (by decide) ?_
        have ho := Option.some.inj hf
        subst ho
        rw [hQq]
        exact xs_iret C hr hlk hP hD hS dX11_status_48
    · replace hf := xsBr_t c9 hf
      refine lv_iload_n hx hb dX11_status_21 rfl (lv_at hl 0 rfl) ?_
      refine lv_goto (tgt := 48) hx hb dX11_status_22 (by decide) ?_
      have ho := Option.some.inj hf
      subst ho
      rw [hQq]
      exact xs_iret C hr hlk hP hD hS dX11_status_48
  · replace hf := xsBr_f c10 hf
    refine lv_iconst (v := (0 : Int32)) hx hb dX11_status_8 (by decide) ?_
    have ho := Option.some.inj hf
    subst ho
    rw [hQq]
    exact xs_iret C hr hlk hP hD hS dX11_status_9
set_option maxRecDepth 100000 in
set_option maxHeartbeats 8000000 in
theorem mX11_rank (l : Launch) {X : xsX} {mThrown mRemembered mHasImage mIsLaid mEvents mCrossings mEdges mTaped mPoint mEnd mBegin mFaultAt mActs : Int32} {mWorld mImage mDraft mEarlier mOne mTwo mShare mCrossingOf mBundle mEventOf mDegree mFrom mTo mMet mTape mFive mTold mFar mViews mHullX mHullY mEndX mEndY mMeets mMeetsOf : Nat → Int32} {mX mY mD mHeightUp mHeightLow : Int64} {mEventX mEventY mEventD mUpper mLower : Nat → Int64} {Rw : va_W} {a0 : Int32} {a1 : Int32} {out : Int32 × Int32 × Int32 × (Nat → Int32) × (Nat → Int32) × (Nat → Int32) × Int64 × Int64 × Int64 × (Nat → Int64) × (Nat → Int64) × (Nat → Int64) × Int32 × (Nat → Int32) × (Nat → Int32) × (Nat → Int32) × (Nat → Int32) × (Nat → Int32) × (Nat → Int32) × Int32 × Int32 × (Nat → Int32) × (Nat → Int64) × (Nat → Int64)} (hf : fX11_rank mThrown mWorld mIsLaid mOne mTwo mShare mX mY mD mEventX mEventY mEventD mEvents mCrossingOf mBundle mEventOf mDegree mFrom mTo mCrossings mEdges mMet mUpper mLower a0 a1 = some out) : Met l yX11_rank (xsWs yX11_rank cX11_rank 5 (some .int)) { frames := 7, cells := 0, slots := 0, locals := 185 } (xsP X (wM X mThrown mWorld mImage mDraft mEarlier mRemembered mHasImage mIsLaid mOne mTwo mShare mX mY mD mEventX mEventY mEventD mEvents mCrossingOf mBundle mEventOf mDegree mFrom mTo mCrossings mEdges mMet mUpper mLower mTape mTaped mPoint mEnd mBegin mFaultAt mFive mTold mActs mFar mViews mHullX mHullY mEndX mEndY mHeightUp mHeightLow mMeets mMeetsOf Rw) [.ref (xsA X 100), .int a0, .int a1]) (xsQi X out.1 (wM X out.2.1 mWorld mImage mDraft mEarlier mRemembered mHasImage out.2.2.1 out.2.2.2.1 out.2.2.2.2.1 out.2.2.2.2.2.1 out.2.2.2.2.2.2.1 out.2.2.2.2.2.2.2.1 out.2.2.2.2.2.2.2.2.1 out.2.2.2.2.2.2.2.2.2.1 out.2.2.2.2.2.2.2.2.2.2.1 out.2.2.2.2.2.2.2.2.2.2.2.1 out.2.2.2.2.2.2.2.2.2.2.2.2.1 out.2.2.2.2.2.2.2.2.2.2.2.2.2.1 out.2.2.2.2.2.2.2.2.2.2.2.2.2.2.1 out.2.2.2.2.2.2.2.2.2.2.2.2.2.2.2.1 out.2.2.2.2.2.2.2.2.2.2.2.2.2.2.2.2.1 out.2.2.2.2.2.2.2.2.2.2.2.2.2.2.2.2.2.1 out.2.2.2.2.2.2.2.2.2.2.2.2.2.2.2.2.2.2.1 out.2.2.2.2.2.2.2.2.2.2.2.2.2.2.2.2.2.2.2.1 out.2.2.2.2.2.2.2.2.2.2.2.2.2.2.2.2.2.2.2.2.1 out.2.2.2.2.2.2.2.2.2.2.2.2.2.2.2.2.2.2.2.2.2.1 out.2.2.2.2.2.2.2.2.2.2.2.2.2.2.2.2.2.2.2.2.2.2.1 out.2.2.2.2.2.2.2.2.2.2.2.2.2.2.2.2.2.2.2.2.2.2.2 mTape mTaped mPoint mEnd mBegin mFaultAt mFive mTold mActs mFar mViews mHullX mHullY mEndX mEndY mHeightUp mHeightLow mMeets mMeetsOf Rw)) 0 0 (xsF X) := by
  refine xs_meth RX11 (by decide) rfl (Nat.le_of_ble_eq_true rfl) ?_
  intro p e s m below meth c ls H locs C hP hD hS hr hlk hl
  have hx := C.1
  have hb := C.2.1
  have hl : lv_has ls 5 [(0, .ref (xsA X 100)), (1, .int a0), (2, .int a1)] := hl
  obtain ⟨Qq, hQq⟩ : ∃ Qq, Qq = xsQi X out.1 (wM X out.2.1 mWorld mImage mDraft mEarlier mRemembered mHasImage out.2.2.1 out.2.2.2.1 out.2.2.2.2.1 out.2.2.2.2.2.1 out.2.2.2.2.2.2.1 out.2.2.2.2.2.2.2.1 out.2.2.2.2.2.2.2.2.1 out.2.2.2.2.2.2.2.2.2.1 out.2.2.2.2.2.2.2.2.2.2.1 out.2.2.2.2.2.2.2.2.2.2.2.1 out.2.2.2.2.2.2.2.2.2.2.2.2.1 out.2.2.2.2.2.2.2.2.2.2.2.2.2.1 out.2.2.2.2.2.2.2.2.2.2.2.2.2.2.1 out.2.2.2.2.2.2.2.2.2.2.2.2.2.2.2.1 out.2.2.2.2.2.2.2.2.2.2.2.2.2.2.2.2.1 out.2.2.2.2.2.2.2.2.2.2.2.2.2.2.2.2.2.1 out.2.2.2.2.2.2.2.2.2.2.2.2.2.2.2.2.2.2.1 out.2.2.2.2.2.2.2.2.2.2.2.2.2.2.2.2.2.2.2.1 out.2.2.2.2.2.2.2.2.2.2.2.2.2.2.2.2.2.2.2.2.1 out.2.2.2.2.2.2.2.2.2.2.2.2.2.2.2.2.2.2.2.2.2.1 out.2.2.2.2.2.2.2.2.2.2.2.2.2.2.2.2.2.2.2.2.2.2.1 out.2.2.2.2.2.2.2.2.2.2.2.2.2.2.2.2.2.2.2.2.2.2.2 mTape mTaped mPoint mEnd mBegin mFaultAt mFive mTold mActs mFar mViews mHullX mHullY mEndX mEndY mHeightUp mHeightLow mMeets mMeetsOf Rw) := ⟨_, rfl⟩
  rw [← hQq]
  unfold fX11_rank at hf
  refine lv_aload_n hx hb dX11_rank_0 rfl (lv_at hl 0 rfl) ?_
  refine lv_iload_n hx hb dX11_rank_1 rfl (lv_at hl 1 rfl) ?_
  replace hf := xsBd_use hf
  obtain ⟨o1, h2, hf⟩ := hf
  refine xs_calli hS (xs_runV (As := [.int a0]) C (mX11_noSegment l  h2) w_1638 w_1640 w_54 w_115 w_1641 hd_X11_noSegment ⟨rfl, rfl, Nat.le_of_ble_eq_true rfl, Nat.le_of_ble_eq_true rfl, Nat.zero_le _, Nat.zero_le _⟩ hP hD hS lk_X11 rfl hl.1 rfl (Nat.le_of_ble_eq_true rfl) dX11_rank_2) (fun H locs hP hD hS => ?_)
  refine lv_if_ne (tgt := 16) hx hb dX11_rank_5 (by decide) (fun c14 => ?_) (fun c14 => ?_)
  · replace hf := xsBr_f c14 hf
    refine lv_iconst (v := (0 : Int32)) hx hb dX11_rank_16 (by decide) ?_
    have ho := Option.some.inj hf
    subst ho
    rw [hQq]
    exact xs_iret C hr hlk hP hD hS dX11_rank_17
  · replace hf := xsBr_t c14 hf
    refine lv_aload_n hx hb dX11_rank_8 rfl (lv_at hl 0 rfl) ?_
    refine lv_iload_n hx hb dX11_rank_9 rfl (lv_at hl 2 rfl) ?_
    replace hf := xsBd_use hf
    obtain ⟨o3, h4, hf⟩ := hf
    refine xs_calli hS (xs_runV (As := [.int a1]) C (mX11_noEvent l  h4) w_1794 w_1796 w_76 w_115 w_1797 hd_X11_noEvent ⟨rfl, rfl, Nat.le_of_ble_eq_true rfl, Nat.le_of_ble_eq_true rfl, Nat.zero_le _, Nat.zero_le _⟩ hP hD hS lk_X11 rfl hl.1 rfl (Nat.le_of_ble_eq_true rfl) dX11_rank_10) (fun H locs hP hD hS => ?_)
    refine lv_if_eq (tgt := 18) hx hb dX11_rank_13 (by decide) (fun c13 => ?_) (fun c13 => ?_)
    · replace hf := xsBr_t c13 hf
      refine lv_aload_n hx hb dX11_rank_18 rfl (lv_at hl 0 rfl) ?_
      refine lv_iload_n hx hb dX11_rank_19 rfl (lv_at hl 2 rfl) ?_
      replace hf := xsBd_use hf
      obtain ⟨o5, h6, hf⟩ := hf
      refine xs_calli hS (xs_runV (As := [.int a1]) C (mX11_laysStatus l  h6) w_1823 w_1825 w_82 w_115 w_1826 hd_X11_laysStatus ⟨rfl, rfl, Nat.le_of_ble_eq_true rfl, Nat.le_of_ble_eq_true rfl, Nat.zero_le _, Nat.zero_le _⟩ hP hD hS lk_X11 rfl hl.1 rfl (Nat.le_of_ble_eq_true rfl) dX11_rank_20) (fun H locs hP hD hS => ?_)
      refine lv_istore_n (lv' := [(3, .int o5.1), (0, .ref (xsA X 100)), (1, .int a0), (2, .int a1)]) hx hb dX11_rank_23 rfl hl (by decide) rfl (fun ls hl => ?_)
      refine lv_iconst (v := (0 : Int32)) hx hb dX11_rank_24 (by decide) ?_
      refine lv_istore (lv' := [(4, .int (0 : Int32)), (3, .int o5.1), (0, .ref (xsA X 100)), (1, .int a0), (2, .int a1)]) hx hb dX11_rank_25 hl (by decide) rfl (fun ls hl => ?_)
      have K8 : ∀ (hf : fX11_rank_J53 o3 o5 = some out) (H : Heap) (locs : List Loc) (ls : Array Slot), va_P (xsD X) vwCl (wM X o3.2.1 mWorld mImage mDraft mEarlier mRemembered mHasImage o3.2.2.1 o3.2.2.2.1 o3.2.2.2.2.1 o3.2.2.2.2.2.1 o3.2.2.2.2.2.2.1 o3.2.2.2.2.2.2.2.1 o3.2.2.2.2.2.2.2.2.1 o3.2.2.2.2.2.2.2.2.2.1 o3.2.2.2.2.2.2.2.2.2.2.1 o3.2.2.2.2.2.2.2.2.2.2.2.1 o3.2.2.2.2.2.2.2.2.2.2.2.2.1 o3.2.2.2.2.2.2.2.2.2.2.2.2.2.1 o3.2.2.2.2.2.2.2.2.2.2.2.2.2.2.1 o3.2.2.2.2.2.2.2.2.2.2.2.2.2.2.2.1 o3.2.2.2.2.2.2.2.2.2.2.2.2.2.2.2.2.1 o3.2.2.2.2.2.2.2.2.2.2.2.2.2.2.2.2.2.1 o3.2.2.2.2.2.2.2.2.2.2.2.2.2.2.2.2.2.2.1 o3.2.2.2.2.2.2.2.2.2.2.2.2.2.2.2.2.2.2.2.1 o3.2.2.2.2.2.2.2.2.2.2.2.2.2.2.2.2.2.2.2.2 o5.2.1 o5.2.2.1 o5.2.2.2 mTape mTaped mPoint mEnd mBegin mFaultAt mFive mTold mActs mFar mViews mHullX mHullY mEndX mEndY mHeightUp mHeightLow mMeets mMeetsOf Rw) H → va_D (xsF X) (wM X o3.2.1 mWorld mImage mDraft mEarlier mRemembered mHasImage o3.2.2.1 o3.2.2.2.1 o3.2.2.2.2.1 o3.2.2.2.2.2.1 o3.2.2.2.2.2.2.1 o3.2.2.2.2.2.2.2.1 o3.2.2.2.2.2.2.2.2.1 o3.2.2.2.2.2.2.2.2.2.1 o3.2.2.2.2.2.2.2.2.2.2.1 o3.2.2.2.2.2.2.2.2.2.2.2.1 o3.2.2.2.2.2.2.2.2.2.2.2.2.1 o3.2.2.2.2.2.2.2.2.2.2.2.2.2.1 o3.2.2.2.2.2.2.2.2.2.2.2.2.2.2.1 o3.2.2.2.2.2.2.2.2.2.2.2.2.2.2.2.1 o3.2.2.2.2.2.2.2.2.2.2.2.2.2.2.2.2.1 o3.2.2.2.2.2.2.2.2.2.2.2.2.2.2.2.2.2.1 o3.2.2.2.2.2.2.2.2.2.2.2.2.2.2.2.2.2.2.1 o3.2.2.2.2.2.2.2.2.2.2.2.2.2.2.2.2.2.2.2.1 o3.2.2.2.2.2.2.2.2.2.2.2.2.2.2.2.2.2.2.2.2 o5.2.1 o5.2.2.1 o5.2.2.2 mTape mTaped mPoint mEnd mBegin mFaultAt mFive mTold mActs mFar mViews mHullX mHullY mEndX mEndY mHeightUp mHeightLow mMeets mMeetsOf Rw) → va_S (xsF X) s.heap H locs → lv_has ls 5 [] → W p l e { frames := 7, cells := 0, slots := 0, locals := 185 } s m ([.ref (xsA X 100), .int a0, .int a1] : List Value).toArray below meth c H locs 0 0 (MQ below Qq ([.ref (xsA X 100), .int a0, .int a1] : List Value).toArray s 0 0 (xsF X)) (F0 m 53 ls []) := by
        intro hf H locs ls hP hD hS hl
        unfold fX11_rank_J53 at hf
        refine lv_iconst (v := (-1 : Int32)) hx hb dX11_rank_53 (by decide) ?_
        have ho := Option.some.inj hf
        subst ho
        rw [hQq]
        exact xs_iret C hr hlk hP hD hS dX11_rank_54
      replace hf := xsBd_use hf
      obtain ⟨r8, hk80, hf⟩ := hf
      have L8 : ∀ (sg : Int32) (rg : (Int32 × Int32 × Int32 × (Nat → Int32) × (Nat → Int32) × (Nat → Int32) × Int64 × Int64 × Int64 × (Nat → Int64) × (Nat → Int64) × (Nat → Int64) × Int32 × (Nat → Int32) × (Nat → Int32) × (Nat → Int32) × (Nat → Int32) × (Nat → Int32) × (Nat → Int32) × Int32 × Int32 × (Nat → Int32) × (Nat → Int64) × (Nat → Int64)) ⊕ (Unit)), xsWh (fun s8 => fX11_rank_L27 a0 o3 o5 s8) sg = some rg → (xsSm rg (fun v8 => fX11_rank_J53 o3 o5) = some out → ∀ (H : Heap) (locs : List Loc) (ls : Array Slot), va_P (xsD X) vwCl (wM X o3.2.1 mWorld mImage mDraft mEarlier mRemembered mHasImage o3.2.2.1 o3.2.2.2.1 o3.2.2.2.2.1 o3.2.2.2.2.2.1 o3.2.2.2.2.2.2.1 o3.2.2.2.2.2.2.2.1 o3.2.2.2.2.2.2.2.2.1 o3.2.2.2.2.2.2.2.2.2.1 o3.2.2.2.2.2.2.2.2.2.2.1 o3.2.2.2.2.2.2.2.2.2.2.2.1 o3.2.2.2.2.2.2.2.2.2.2.2.2.1 o3.2.2.2.2.2.2.2.2.2.2.2.2.2.1 o3.2.2.2.2.2.2.2.2.2.2.2.2.2.2.1 o3.2.2.2.2.2.2.2.2.2.2.2.2.2.2.2.1 o3.2.2.2.2.2.2.2.2.2.2.2.2.2.2.2.2.1 o3.2.2.2.2.2.2.2.2.2.2.2.2.2.2.2.2.2.1 o3.2.2.2.2.2.2.2.2.2.2.2.2.2.2.2.2.2.2.1 o3.2.2.2.2.2.2.2.2.2.2.2.2.2.2.2.2.2.2.2.1 o3.2.2.2.2.2.2.2.2.2.2.2.2.2.2.2.2.2.2.2.2 o5.2.1 o5.2.2.1 o5.2.2.2 mTape mTaped mPoint mEnd mBegin mFaultAt mFive mTold mActs mFar mViews mHullX mHullY mEndX mEndY mHeightUp mHeightLow mMeets mMeetsOf Rw) H → va_D (xsF X) (wM X o3.2.1 mWorld mImage mDraft mEarlier mRemembered mHasImage o3.2.2.1 o3.2.2.2.1 o3.2.2.2.2.1 o3.2.2.2.2.2.1 o3.2.2.2.2.2.2.1 o3.2.2.2.2.2.2.2.1 o3.2.2.2.2.2.2.2.2.1 o3.2.2.2.2.2.2.2.2.2.1 o3.2.2.2.2.2.2.2.2.2.2.1 o3.2.2.2.2.2.2.2.2.2.2.2.1 o3.2.2.2.2.2.2.2.2.2.2.2.2.1 o3.2.2.2.2.2.2.2.2.2.2.2.2.2.1 o3.2.2.2.2.2.2.2.2.2.2.2.2.2.2.1 o3.2.2.2.2.2.2.2.2.2.2.2.2.2.2.2.1 o3.2.2.2.2.2.2.2.2.2.2.2.2.2.2.2.2.1 o3.2.2.2.2.2.2.2.2.2.2.2.2.2.2.2.2.2.1 o3.2.2.2.2.2.2.2.2.2.2.2.2.2.2.2.2.2.2.1 o3.2.2.2.2.2.2.2.2.2.2.2.2.2.2.2.2.2.2.2.1 o3.2.2.2.2.2.2.2.2.2.2.2.2.2.2.2.2.2.2.2.2 o5.2.1 o5.2.2.1 o5.2.2.2 mTape mTaped mPoint mEnd mBegin mFaultAt mFive mTold mActs mFar mViews mHullX mHullY mEndX mEndY mHeightUp mHeightLow mMeets mMeetsOf Rw) → va_S (xsF X) s.heap H locs → lv_has ls 5 [(0, .ref (xsA X 100)), (1, .int a0), (3, .int o5.1), (4, .int sg)] → W p l e { frames := 7, cells := 0, slots := 0, locals := 185 } s m ([.ref (xsA X 100), .int a0, .int a1] : List Value).toArray below meth c H locs 0 0 (MQ below Qq ([.ref (xsA X 100), .int a0, .int a1] : List Value).toArray s 0 0 (xsF X)) (F0 m 27 ls [])) := by
        refine xsWh_ind ?_
        intro sg r8 u8 hf ih8 hx8 hk8 H locs ls hP hD hS hl
        obtain ⟨y7, ey⟩ : ∃ z, z = sg := ⟨_, rfl⟩
        subst ey
        replace hf : fX11_rank_L27 a0 o3 o5 y7 = some u8 := hf
        replace hl : lv_has ls 5 [(0, .ref (xsA X 100)), (1, .int a0), (3, .int o5.1), (4, .int y7)] := hl
        replace hP : va_P (xsD X) vwCl (wM X o3.2.1 mWorld mImage mDraft mEarlier mRemembered mHasImage o3.2.2.1 o3.2.2.2.1 o3.2.2.2.2.1 o3.2.2.2.2.2.1 o3.2.2.2.2.2.2.1 o3.2.2.2.2.2.2.2.1 o3.2.2.2.2.2.2.2.2.1 o3.2.2.2.2.2.2.2.2.2.1 o3.2.2.2.2.2.2.2.2.2.2.1 o3.2.2.2.2.2.2.2.2.2.2.2.1 o3.2.2.2.2.2.2.2.2.2.2.2.2.1 o3.2.2.2.2.2.2.2.2.2.2.2.2.2.1 o3.2.2.2.2.2.2.2.2.2.2.2.2.2.2.1 o3.2.2.2.2.2.2.2.2.2.2.2.2.2.2.2.1 o3.2.2.2.2.2.2.2.2.2.2.2.2.2.2.2.2.1 o3.2.2.2.2.2.2.2.2.2.2.2.2.2.2.2.2.2.1 o3.2.2.2.2.2.2.2.2.2.2.2.2.2.2.2.2.2.2.1 o3.2.2.2.2.2.2.2.2.2.2.2.2.2.2.2.2.2.2.2.1 o3.2.2.2.2.2.2.2.2.2.2.2.2.2.2.2.2.2.2.2.2 o5.2.1 o5.2.2.1 o5.2.2.2 mTape mTaped mPoint mEnd mBegin mFaultAt mFive mTold mActs mFar mViews mHullX mHullY mEndX mEndY mHeightUp mHeightLow mMeets mMeetsOf Rw) H := hP
        replace hD : va_D (xsF X) (wM X o3.2.1 mWorld mImage mDraft mEarlier mRemembered mHasImage o3.2.2.1 o3.2.2.2.1 o3.2.2.2.2.1 o3.2.2.2.2.2.1 o3.2.2.2.2.2.2.1 o3.2.2.2.2.2.2.2.1 o3.2.2.2.2.2.2.2.2.1 o3.2.2.2.2.2.2.2.2.2.1 o3.2.2.2.2.2.2.2.2.2.2.1 o3.2.2.2.2.2.2.2.2.2.2.2.1 o3.2.2.2.2.2.2.2.2.2.2.2.2.1 o3.2.2.2.2.2.2.2.2.2.2.2.2.2.1 o3.2.2.2.2.2.2.2.2.2.2.2.2.2.2.1 o3.2.2.2.2.2.2.2.2.2.2.2.2.2.2.2.1 o3.2.2.2.2.2.2.2.2.2.2.2.2.2.2.2.2.1 o3.2.2.2.2.2.2.2.2.2.2.2.2.2.2.2.2.2.1 o3.2.2.2.2.2.2.2.2.2.2.2.2.2.2.2.2.2.2.1 o3.2.2.2.2.2.2.2.2.2.2.2.2.2.2.2.2.2.2.2.1 o3.2.2.2.2.2.2.2.2.2.2.2.2.2.2.2.2.2.2.2.2 o5.2.1 o5.2.2.1 o5.2.2.2 mTape mTaped mPoint mEnd mBegin mFaultAt mFive mTold mActs mFar mViews mHullX mHullY mEndX mEndY mHeightUp mHeightLow mMeets mMeetsOf Rw) := hD
        unfold fX11_rank_L27 at hf
        refine lv_iload hx hb dX11_rank_27 (lv_at hl 3 rfl) ?_
        refine lv_iload_n hx hb dX11_rank_29 rfl (lv_at hl 2 rfl) ?_
        refine lv_icmp_ge (tgt := 53) hx hb dX11_rank_30 (by decide) (fun c12 => ?_) (fun c12 => ?_)
        · replace hf := xsBr_t c12 hf
          have ez := hx8 _ (Option.some.inj hf).symm
          subst ez
          exact K8 hk8 H locs ls hP hD hS (lv_sub hl [] rfl)
        · replace hf := xsBr_f c12 hf
          refine lv_aload_n hx hb dX11_rank_33 rfl (lv_at hl 0 rfl) ?_
          refine xg_X11_63 C hP dX11_rank_34 ?_
          refine lv_iload hx hb dX11_rank_37 (lv_at hl 3 rfl) ?_
          replace hf := xsCk_use hf
          obtain ⟨h9, hf⟩ := hf
          refine xl_mMet C hP h9 dX11_rank_39 ?_
          refine lv_iload_n hx hb dX11_rank_40 rfl (lv_at hl 1 rfl) ?_
          refine lv_icmp_ne (tgt := 47) hx hb dX11_rank_41 (by decide) (fun c11 => ?_) (fun c11 => ?_)
          · replace hf := xsBr_f c11 hf
            obtain ⟨x10, ex10⟩ : ∃ y : Int32, y = y7 + (1 : Int32) := ⟨_, rfl⟩
            replace hf := xsLt_use ex10 hf
            refine lv_iinc (v := x10) (lv' := [(4, .int x10), (0, .ref (xsA X 100)), (1, .int a0), (3, .int o5.1)]) hx hb dX11_rank_47 hl (k := 3) rfl (by rw [ex10]; rfl) (by decide) rfl (fun ls hl => ?_)
            refine lv_goto (tgt := 27) hx hb dX11_rank_50 (by decide) ?_
            exact ih8 _ (Option.some.inj hf).symm hk8 H locs ls hP hD hS (lv_sub hl [1, 2, 3, 0] rfl)
          · replace hf := xsBr_t c11 hf
            refine lv_iload hx hb dX11_rank_44 (lv_at hl 3 rfl) ?_
            have ez := hx8 _ (Option.some.inj hf).symm
            subst ez
            have hf := hk8
            have ho := Option.some.inj hf
            subst ho
            rw [hQq]
            exact xs_iret C hr hlk hP hD hS dX11_rank_46
      exact L8 (0 : Int32) r8 hk80 hf H locs ls hP hD hS (lv_sub hl [2, 3, 1, 0] rfl)
    · replace hf := xsBr_f c13 hf
      refine lv_iconst (v := (0 : Int32)) hx hb dX11_rank_16 (by decide) ?_
      have ho := Option.some.inj hf
      subst ho
      rw [hQq]
      exact xs_iret C hr hlk hP hD hS dX11_rank_17
set_option maxRecDepth 100000 in
set_option maxHeartbeats 8000000 in
theorem mX11_road (l : Launch) {X : xsX} {mThrown mRemembered mHasImage mIsLaid mEvents mCrossings mEdges mTaped mPoint mEnd mBegin mFaultAt mActs : Int32} {mWorld mImage mDraft mEarlier mOne mTwo mShare mCrossingOf mBundle mEventOf mDegree mFrom mTo mMet mTape mFive mTold mFar mViews mHullX mHullY mEndX mEndY mMeets mMeetsOf : Nat → Int32} {mX mY mD mHeightUp mHeightLow : Int64} {mEventX mEventY mEventD mUpper mLower : Nat → Int64} {Rw : va_W} {a0 : Int32} {a1 : Int32} {out : Int32 × Int32 × Int32 × (Nat → Int32) × (Nat → Int32) × (Nat → Int32) × Int64 × Int64 × Int64 × (Nat → Int64) × (Nat → Int64) × (Nat → Int64) × Int32 × (Nat → Int32) × (Nat → Int32) × (Nat → Int32) × (Nat → Int32) × (Nat → Int32) × (Nat → Int32) × Int32 × Int32 × (Nat → Int32)} (hf : fX11_road mThrown mWorld mIsLaid mOne mTwo mShare mX mY mD mEventX mEventY mEventD mEvents mCrossingOf mBundle mEventOf mDegree mFrom mTo mCrossings mEdges mFar a0 a1 = some out) : Met l yX11_road (xsWs yX11_road cX11_road 8 (some .int)) { frames := 7, cells := 0, slots := 0, locals := 185 } (xsP X (wM X mThrown mWorld mImage mDraft mEarlier mRemembered mHasImage mIsLaid mOne mTwo mShare mX mY mD mEventX mEventY mEventD mEvents mCrossingOf mBundle mEventOf mDegree mFrom mTo mCrossings mEdges mMet mUpper mLower mTape mTaped mPoint mEnd mBegin mFaultAt mFive mTold mActs mFar mViews mHullX mHullY mEndX mEndY mHeightUp mHeightLow mMeets mMeetsOf Rw) [.ref (xsA X 100), .int a0, .int a1]) (xsQi X out.1 (wM X out.2.1 mWorld mImage mDraft mEarlier mRemembered mHasImage out.2.2.1 out.2.2.2.1 out.2.2.2.2.1 out.2.2.2.2.2.1 out.2.2.2.2.2.2.1 out.2.2.2.2.2.2.2.1 out.2.2.2.2.2.2.2.2.1 out.2.2.2.2.2.2.2.2.2.1 out.2.2.2.2.2.2.2.2.2.2.1 out.2.2.2.2.2.2.2.2.2.2.2.1 out.2.2.2.2.2.2.2.2.2.2.2.2.1 out.2.2.2.2.2.2.2.2.2.2.2.2.2.1 out.2.2.2.2.2.2.2.2.2.2.2.2.2.2.1 out.2.2.2.2.2.2.2.2.2.2.2.2.2.2.2.1 out.2.2.2.2.2.2.2.2.2.2.2.2.2.2.2.2.1 out.2.2.2.2.2.2.2.2.2.2.2.2.2.2.2.2.2.1 out.2.2.2.2.2.2.2.2.2.2.2.2.2.2.2.2.2.2.1 out.2.2.2.2.2.2.2.2.2.2.2.2.2.2.2.2.2.2.2.1 out.2.2.2.2.2.2.2.2.2.2.2.2.2.2.2.2.2.2.2.2.1 mMet mUpper mLower mTape mTaped mPoint mEnd mBegin mFaultAt mFive mTold mActs out.2.2.2.2.2.2.2.2.2.2.2.2.2.2.2.2.2.2.2.2.2 mViews mHullX mHullY mEndX mEndY mHeightUp mHeightLow mMeets mMeetsOf Rw)) 0 0 (xsF X) := by
  refine xs_meth RX11 (by decide) rfl (Nat.le_of_ble_eq_true rfl) ?_
  intro p e s m below meth c ls H locs C hP hD hS hr hlk hl
  have hx := C.1
  have hb := C.2.1
  have hl : lv_has ls 8 [(0, .ref (xsA X 100)), (1, .int a0), (2, .int a1)] := hl
  obtain ⟨Qq, hQq⟩ : ∃ Qq, Qq = xsQi X out.1 (wM X out.2.1 mWorld mImage mDraft mEarlier mRemembered mHasImage out.2.2.1 out.2.2.2.1 out.2.2.2.2.1 out.2.2.2.2.2.1 out.2.2.2.2.2.2.1 out.2.2.2.2.2.2.2.1 out.2.2.2.2.2.2.2.2.1 out.2.2.2.2.2.2.2.2.2.1 out.2.2.2.2.2.2.2.2.2.2.1 out.2.2.2.2.2.2.2.2.2.2.2.1 out.2.2.2.2.2.2.2.2.2.2.2.2.1 out.2.2.2.2.2.2.2.2.2.2.2.2.2.1 out.2.2.2.2.2.2.2.2.2.2.2.2.2.2.1 out.2.2.2.2.2.2.2.2.2.2.2.2.2.2.2.1 out.2.2.2.2.2.2.2.2.2.2.2.2.2.2.2.2.1 out.2.2.2.2.2.2.2.2.2.2.2.2.2.2.2.2.2.1 out.2.2.2.2.2.2.2.2.2.2.2.2.2.2.2.2.2.2.1 out.2.2.2.2.2.2.2.2.2.2.2.2.2.2.2.2.2.2.2.1 out.2.2.2.2.2.2.2.2.2.2.2.2.2.2.2.2.2.2.2.2.1 mMet mUpper mLower mTape mTaped mPoint mEnd mBegin mFaultAt mFive mTold mActs out.2.2.2.2.2.2.2.2.2.2.2.2.2.2.2.2.2.2.2.2.2 mViews mHullX mHullY mEndX mEndY mHeightUp mHeightLow mMeets mMeetsOf Rw) := ⟨_, rfl⟩
  rw [← hQq]
  unfold fX11_road at hf
  refine lv_aload_n hx hb dX11_road_0 rfl (lv_at hl 0 rfl) ?_
  refine lv_iload_n hx hb dX11_road_1 rfl (lv_at hl 1 rfl) ?_
  replace hf := xsBd_use hf
  obtain ⟨o1, h2, hf⟩ := hf
  refine xs_calli hS (xs_runV (As := [.int a0]) C (mX11_noEvent l  h2) w_1794 w_1796 w_76 w_115 w_1797 hd_X11_noEvent ⟨rfl, rfl, Nat.le_of_ble_eq_true rfl, Nat.le_of_ble_eq_true rfl, Nat.zero_le _, Nat.zero_le _⟩ hP hD hS lk_X11 rfl hl.1 rfl (Nat.le_of_ble_eq_true rfl) dX11_road_2) (fun H locs hP hD hS => ?_)
  refine lv_if_ne (tgt := 16) hx hb dX11_road_5 (by decide) (fun c62 => ?_) (fun c62 => ?_)
  · replace hf := xsBr_f c62 hf
    refine lv_iconst (v := (0 : Int32)) hx hb dX11_road_16 (by decide) ?_
    have ho := Option.some.inj hf
    subst ho
    rw [hQq]
    exact xs_iret C hr hlk hP hD hS dX11_road_17
  · replace hf := xsBr_t c62 hf
    refine lv_aload_n hx hb dX11_road_8 rfl (lv_at hl 0 rfl) ?_
    refine lv_iload_n hx hb dX11_road_9 rfl (lv_at hl 2 rfl) ?_
    replace hf := xsBd_use hf
    obtain ⟨o3, h4, hf⟩ := hf
    refine xs_calli hS (xs_runV (As := [.int a1]) C (mX11_noEvent l  h4) w_1794 w_1796 w_76 w_115 w_1797 hd_X11_noEvent ⟨rfl, rfl, Nat.le_of_ble_eq_true rfl, Nat.le_of_ble_eq_true rfl, Nat.zero_le _, Nat.zero_le _⟩ hP hD hS lk_X11 rfl hl.1 rfl (Nat.le_of_ble_eq_true rfl) dX11_road_10) (fun H locs hP hD hS => ?_)
    refine lv_if_eq (tgt := 18) hx hb dX11_road_13 (by decide) (fun c61 => ?_) (fun c61 => ?_)
    · replace hf := xsBr_t c61 hf
      refine lv_iconst (v := (0 : Int32)) hx hb dX11_road_18 (by decide) ?_
      refine lv_istore_n (lv' := [(3, .int (0 : Int32)), (0, .ref (xsA X 100)), (1, .int a0), (2, .int a1)]) hx hb dX11_road_19 rfl hl (by decide) rfl (fun ls hl => ?_)
      have K7 : ∀ (y8 : Nat → Int32) (hf : fX11_road_J50 a1 o3 y8 = some out) (H : Heap) (locs : List Loc) (ls : Array Slot), va_P (xsD X) vwCl (wM X o3.2.1 mWorld mImage mDraft mEarlier mRemembered mHasImage o3.2.2.1 o3.2.2.2.1 o3.2.2.2.2.1 o3.2.2.2.2.2.1 o3.2.2.2.2.2.2.1 o3.2.2.2.2.2.2.2.1 o3.2.2.2.2.2.2.2.2.1 o3.2.2.2.2.2.2.2.2.2.1 o3.2.2.2.2.2.2.2.2.2.2.1 o3.2.2.2.2.2.2.2.2.2.2.2.1 o3.2.2.2.2.2.2.2.2.2.2.2.2.1 o3.2.2.2.2.2.2.2.2.2.2.2.2.2.1 o3.2.2.2.2.2.2.2.2.2.2.2.2.2.2.1 o3.2.2.2.2.2.2.2.2.2.2.2.2.2.2.2.1 o3.2.2.2.2.2.2.2.2.2.2.2.2.2.2.2.2.1 o3.2.2.2.2.2.2.2.2.2.2.2.2.2.2.2.2.2.1 o3.2.2.2.2.2.2.2.2.2.2.2.2.2.2.2.2.2.2.1 o3.2.2.2.2.2.2.2.2.2.2.2.2.2.2.2.2.2.2.2.1 o3.2.2.2.2.2.2.2.2.2.2.2.2.2.2.2.2.2.2.2.2 mMet mUpper mLower mTape mTaped mPoint mEnd mBegin mFaultAt mFive mTold mActs y8 mViews mHullX mHullY mEndX mEndY mHeightUp mHeightLow mMeets mMeetsOf Rw) H → va_D (xsF X) (wM X o3.2.1 mWorld mImage mDraft mEarlier mRemembered mHasImage o3.2.2.1 o3.2.2.2.1 o3.2.2.2.2.1 o3.2.2.2.2.2.1 o3.2.2.2.2.2.2.1 o3.2.2.2.2.2.2.2.1 o3.2.2.2.2.2.2.2.2.1 o3.2.2.2.2.2.2.2.2.2.1 o3.2.2.2.2.2.2.2.2.2.2.1 o3.2.2.2.2.2.2.2.2.2.2.2.1 o3.2.2.2.2.2.2.2.2.2.2.2.2.1 o3.2.2.2.2.2.2.2.2.2.2.2.2.2.1 o3.2.2.2.2.2.2.2.2.2.2.2.2.2.2.1 o3.2.2.2.2.2.2.2.2.2.2.2.2.2.2.2.1 o3.2.2.2.2.2.2.2.2.2.2.2.2.2.2.2.2.1 o3.2.2.2.2.2.2.2.2.2.2.2.2.2.2.2.2.2.1 o3.2.2.2.2.2.2.2.2.2.2.2.2.2.2.2.2.2.2.1 o3.2.2.2.2.2.2.2.2.2.2.2.2.2.2.2.2.2.2.2.1 o3.2.2.2.2.2.2.2.2.2.2.2.2.2.2.2.2.2.2.2.2 mMet mUpper mLower mTape mTaped mPoint mEnd mBegin mFaultAt mFive mTold mActs y8 mViews mHullX mHullY mEndX mEndY mHeightUp mHeightLow mMeets mMeetsOf Rw) → va_S (xsF X) s.heap H locs → lv_has ls 8 [(0, .ref (xsA X 100)), (2, .int a1)] → W p l e { frames := 7, cells := 0, slots := 0, locals := 185 } s m ([.ref (xsA X 100), .int a0, .int a1] : List Value).toArray below meth c H locs 0 0 (MQ below Qq ([.ref (xsA X 100), .int a0, .int a1] : List Value).toArray s 0 0 (xsF X)) (F0 m 50 ls []) := by
        intro y8 hf H locs ls hP hD hS hl
        unfold fX11_road_J50 at hf
        refine lv_iconst (v := (1 : Int32)) hx hb dX11_road_50 (by decide) ?_
        refine lv_istore_n (lv' := [(3, .int (1 : Int32)), (0, .ref (xsA X 100)), (2, .int a1)]) hx hb dX11_road_51 rfl hl (by decide) rfl (fun ls hl => ?_)
        refine lv_iconst (v := (0 : Int32)) hx hb dX11_road_52 (by decide) ?_
        refine lv_istore (lv' := [(4, .int (0 : Int32)), (3, .int (1 : Int32)), (0, .ref (xsA X 100)), (2, .int a1)]) hx hb dX11_road_53 hl (by decide) rfl (fun ls hl => ?_)
        have K12 : ∀ (y13 : Nat → Int32) (hf : fX11_road_J179 a1 o3 y13 = some out) (H : Heap) (locs : List Loc) (ls : Array Slot), va_P (xsD X) vwCl (wM X o3.2.1 mWorld mImage mDraft mEarlier mRemembered mHasImage o3.2.2.1 o3.2.2.2.1 o3.2.2.2.2.1 o3.2.2.2.2.2.1 o3.2.2.2.2.2.2.1 o3.2.2.2.2.2.2.2.1 o3.2.2.2.2.2.2.2.2.1 o3.2.2.2.2.2.2.2.2.2.1 o3.2.2.2.2.2.2.2.2.2.2.1 o3.2.2.2.2.2.2.2.2.2.2.2.1 o3.2.2.2.2.2.2.2.2.2.2.2.2.1 o3.2.2.2.2.2.2.2.2.2.2.2.2.2.1 o3.2.2.2.2.2.2.2.2.2.2.2.2.2.2.1 o3.2.2.2.2.2.2.2.2.2.2.2.2.2.2.2.1 o3.2.2.2.2.2.2.2.2.2.2.2.2.2.2.2.2.1 o3.2.2.2.2.2.2.2.2.2.2.2.2.2.2.2.2.2.1 o3.2.2.2.2.2.2.2.2.2.2.2.2.2.2.2.2.2.2.1 o3.2.2.2.2.2.2.2.2.2.2.2.2.2.2.2.2.2.2.2.1 o3.2.2.2.2.2.2.2.2.2.2.2.2.2.2.2.2.2.2.2.2 mMet mUpper mLower mTape mTaped mPoint mEnd mBegin mFaultAt mFive mTold mActs y13 mViews mHullX mHullY mEndX mEndY mHeightUp mHeightLow mMeets mMeetsOf Rw) H → va_D (xsF X) (wM X o3.2.1 mWorld mImage mDraft mEarlier mRemembered mHasImage o3.2.2.1 o3.2.2.2.1 o3.2.2.2.2.1 o3.2.2.2.2.2.1 o3.2.2.2.2.2.2.1 o3.2.2.2.2.2.2.2.1 o3.2.2.2.2.2.2.2.2.1 o3.2.2.2.2.2.2.2.2.2.1 o3.2.2.2.2.2.2.2.2.2.2.1 o3.2.2.2.2.2.2.2.2.2.2.2.1 o3.2.2.2.2.2.2.2.2.2.2.2.2.1 o3.2.2.2.2.2.2.2.2.2.2.2.2.2.1 o3.2.2.2.2.2.2.2.2.2.2.2.2.2.2.1 o3.2.2.2.2.2.2.2.2.2.2.2.2.2.2.2.1 o3.2.2.2.2.2.2.2.2.2.2.2.2.2.2.2.2.1 o3.2.2.2.2.2.2.2.2.2.2.2.2.2.2.2.2.2.1 o3.2.2.2.2.2.2.2.2.2.2.2.2.2.2.2.2.2.2.1 o3.2.2.2.2.2.2.2.2.2.2.2.2.2.2.2.2.2.2.2.1 o3.2.2.2.2.2.2.2.2.2.2.2.2.2.2.2.2.2.2.2.2 mMet mUpper mLower mTape mTaped mPoint mEnd mBegin mFaultAt mFive mTold mActs y13 mViews mHullX mHullY mEndX mEndY mHeightUp mHeightLow mMeets mMeetsOf Rw) → va_S (xsF X) s.heap H locs → lv_has ls 8 [(0, .ref (xsA X 100)), (2, .int a1)] → W p l e { frames := 7, cells := 0, slots := 0, locals := 185 } s m ([.ref (xsA X 100), .int a0, .int a1] : List Value).toArray below meth c H locs 0 0 (MQ below Qq ([.ref (xsA X 100), .int a0, .int a1] : List Value).toArray s 0 0 (xsF X)) (F0 m 179 ls []) := by
          intro y13 hf H locs ls hP hD hS hl
          unfold fX11_road_J179 at hf
          refine lv_aload_n hx hb dX11_road_179 rfl (lv_at hl 0 rfl) ?_
          refine xg_X11_85 C hP dX11_road_180 ?_
          refine lv_iload_n hx hb dX11_road_183 rfl (lv_at hl 1 rfl) ?_
          replace hf := xsCk_use hf
          obtain ⟨h14, hf⟩ := hf
          refine xl_mFar C hP h14 dX11_road_184 ?_
          have ho := Option.some.inj hf
          subst ho
          rw [hQq]
          exact xs_iret C hr hlk hP hD hS dX11_road_185
        replace hf := xsBd_use hf
        obtain ⟨r12, hk120, hf⟩ := hf
        have L12 : ∀ (sg : Int32 × Int32 × (Nat → Int32)) (rg : (Nat → Int32)), xsWh (fun s12 => fX11_road_L55 o3 s12.1 s12.2.1 s12.2.2) sg = some rg → (fX11_road_J179 a1 o3 rg = some out → ∀ (H : Heap) (locs : List Loc) (ls : Array Slot), va_P (xsD X) vwCl (wM X o3.2.1 mWorld mImage mDraft mEarlier mRemembered mHasImage o3.2.2.1 o3.2.2.2.1 o3.2.2.2.2.1 o3.2.2.2.2.2.1 o3.2.2.2.2.2.2.1 o3.2.2.2.2.2.2.2.1 o3.2.2.2.2.2.2.2.2.1 o3.2.2.2.2.2.2.2.2.2.1 o3.2.2.2.2.2.2.2.2.2.2.1 o3.2.2.2.2.2.2.2.2.2.2.2.1 o3.2.2.2.2.2.2.2.2.2.2.2.2.1 o3.2.2.2.2.2.2.2.2.2.2.2.2.2.1 o3.2.2.2.2.2.2.2.2.2.2.2.2.2.2.1 o3.2.2.2.2.2.2.2.2.2.2.2.2.2.2.2.1 o3.2.2.2.2.2.2.2.2.2.2.2.2.2.2.2.2.1 o3.2.2.2.2.2.2.2.2.2.2.2.2.2.2.2.2.2.1 o3.2.2.2.2.2.2.2.2.2.2.2.2.2.2.2.2.2.2.1 o3.2.2.2.2.2.2.2.2.2.2.2.2.2.2.2.2.2.2.2.1 o3.2.2.2.2.2.2.2.2.2.2.2.2.2.2.2.2.2.2.2.2 mMet mUpper mLower mTape mTaped mPoint mEnd mBegin mFaultAt mFive mTold mActs sg.2.2 mViews mHullX mHullY mEndX mEndY mHeightUp mHeightLow mMeets mMeetsOf Rw) H → va_D (xsF X) (wM X o3.2.1 mWorld mImage mDraft mEarlier mRemembered mHasImage o3.2.2.1 o3.2.2.2.1 o3.2.2.2.2.1 o3.2.2.2.2.2.1 o3.2.2.2.2.2.2.1 o3.2.2.2.2.2.2.2.1 o3.2.2.2.2.2.2.2.2.1 o3.2.2.2.2.2.2.2.2.2.1 o3.2.2.2.2.2.2.2.2.2.2.1 o3.2.2.2.2.2.2.2.2.2.2.2.1 o3.2.2.2.2.2.2.2.2.2.2.2.2.1 o3.2.2.2.2.2.2.2.2.2.2.2.2.2.1 o3.2.2.2.2.2.2.2.2.2.2.2.2.2.2.1 o3.2.2.2.2.2.2.2.2.2.2.2.2.2.2.2.1 o3.2.2.2.2.2.2.2.2.2.2.2.2.2.2.2.2.1 o3.2.2.2.2.2.2.2.2.2.2.2.2.2.2.2.2.2.1 o3.2.2.2.2.2.2.2.2.2.2.2.2.2.2.2.2.2.2.1 o3.2.2.2.2.2.2.2.2.2.2.2.2.2.2.2.2.2.2.2.1 o3.2.2.2.2.2.2.2.2.2.2.2.2.2.2.2.2.2.2.2.2 mMet mUpper mLower mTape mTaped mPoint mEnd mBegin mFaultAt mFive mTold mActs sg.2.2 mViews mHullX mHullY mEndX mEndY mHeightUp mHeightLow mMeets mMeetsOf Rw) → va_S (xsF X) s.heap H locs → lv_has ls 8 [(0, .ref (xsA X 100)), (2, .int a1), (3, .int sg.1), (4, .int sg.2.1)] → W p l e { frames := 7, cells := 0, slots := 0, locals := 185 } s m ([.ref (xsA X 100), .int a0, .int a1] : List Value).toArray below meth c H locs 0 0 (MQ below Qq ([.ref (xsA X 100), .int a0, .int a1] : List Value).toArray s 0 0 (xsF X)) (F0 m 55 ls [])) := by
          refine xsWh_ind ?_
          intro sg r12 u12 hf ih12 hx12 hk12 H locs ls hP hD hS hl
          obtain ⟨y9, y10, y11⟩ := sg
          replace hf : fX11_road_L55 o3 y9 y10 y11 = some u12 := hf
          replace hl : lv_has ls 8 [(0, .ref (xsA X 100)), (2, .int a1), (3, .int y9), (4, .int y10)] := hl
          replace hP : va_P (xsD X) vwCl (wM X o3.2.1 mWorld mImage mDraft mEarlier mRemembered mHasImage o3.2.2.1 o3.2.2.2.1 o3.2.2.2.2.1 o3.2.2.2.2.2.1 o3.2.2.2.2.2.2.1 o3.2.2.2.2.2.2.2.1 o3.2.2.2.2.2.2.2.2.1 o3.2.2.2.2.2.2.2.2.2.1 o3.2.2.2.2.2.2.2.2.2.2.1 o3.2.2.2.2.2.2.2.2.2.2.2.1 o3.2.2.2.2.2.2.2.2.2.2.2.2.1 o3.2.2.2.2.2.2.2.2.2.2.2.2.2.1 o3.2.2.2.2.2.2.2.2.2.2.2.2.2.2.1 o3.2.2.2.2.2.2.2.2.2.2.2.2.2.2.2.1 o3.2.2.2.2.2.2.2.2.2.2.2.2.2.2.2.2.1 o3.2.2.2.2.2.2.2.2.2.2.2.2.2.2.2.2.2.1 o3.2.2.2.2.2.2.2.2.2.2.2.2.2.2.2.2.2.2.1 o3.2.2.2.2.2.2.2.2.2.2.2.2.2.2.2.2.2.2.2.1 o3.2.2.2.2.2.2.2.2.2.2.2.2.2.2.2.2.2.2.2.2 mMet mUpper mLower mTape mTaped mPoint mEnd mBegin mFaultAt mFive mTold mActs y11 mViews mHullX mHullY mEndX mEndY mHeightUp mHeightLow mMeets mMeetsOf Rw) H := hP
          replace hD : va_D (xsF X) (wM X o3.2.1 mWorld mImage mDraft mEarlier mRemembered mHasImage o3.2.2.1 o3.2.2.2.1 o3.2.2.2.2.1 o3.2.2.2.2.2.1 o3.2.2.2.2.2.2.1 o3.2.2.2.2.2.2.2.1 o3.2.2.2.2.2.2.2.2.1 o3.2.2.2.2.2.2.2.2.2.1 o3.2.2.2.2.2.2.2.2.2.2.1 o3.2.2.2.2.2.2.2.2.2.2.2.1 o3.2.2.2.2.2.2.2.2.2.2.2.2.1 o3.2.2.2.2.2.2.2.2.2.2.2.2.2.1 o3.2.2.2.2.2.2.2.2.2.2.2.2.2.2.1 o3.2.2.2.2.2.2.2.2.2.2.2.2.2.2.2.1 o3.2.2.2.2.2.2.2.2.2.2.2.2.2.2.2.2.1 o3.2.2.2.2.2.2.2.2.2.2.2.2.2.2.2.2.2.1 o3.2.2.2.2.2.2.2.2.2.2.2.2.2.2.2.2.2.2.1 o3.2.2.2.2.2.2.2.2.2.2.2.2.2.2.2.2.2.2.2.1 o3.2.2.2.2.2.2.2.2.2.2.2.2.2.2.2.2.2.2.2.2 mMet mUpper mLower mTape mTaped mPoint mEnd mBegin mFaultAt mFive mTold mActs y11 mViews mHullX mHullY mEndX mEndY mHeightUp mHeightLow mMeets mMeetsOf Rw) := hD
          unfold fX11_road_L55 at hf
          refine lv_iload_n hx hb dX11_road_55 rfl (lv_at hl 2 rfl) ?_
          refine lv_if_eq (tgt := 179) hx hb dX11_road_56 (by decide) (fun c51 => ?_) (fun c51 => ?_)
          · replace hf := xsBr_t c51 hf
            have ez := hx12 _ (Option.some.inj hf).symm
            subst ez
            exact K12 y11 hk12 H locs ls hP hD hS (lv_sub hl [0, 1] rfl)
          · replace hf := xsBr_f c51 hf
            refine lv_iconst (v := (0 : Int32)) hx hb dX11_road_59 (by decide) ?_
            refine lv_istore_n (lv' := [(3, .int (0 : Int32)), (0, .ref (xsA X 100)), (2, .int a1), (4, .int y10)]) hx hb dX11_road_60 rfl hl (by decide) rfl (fun ls hl => ?_)
            refine lv_iconst (v := (0 : Int32)) hx hb dX11_road_61 (by decide) ?_
            refine lv_istore (lv' := [(5, .int (0 : Int32)), (3, .int (0 : Int32)), (0, .ref (xsA X 100)), (2, .int a1), (4, .int y10)]) hx hb dX11_road_62 hl (by decide) rfl (fun ls hl => ?_)
            have K18 : ∀ (y19 : Int32) (y20 : Nat → Int32) (hf : fX11_road_J173 y10 y19 y20 = some u12) (H : Heap) (locs : List Loc) (ls : Array Slot), va_P (xsD X) vwCl (wM X o3.2.1 mWorld mImage mDraft mEarlier mRemembered mHasImage o3.2.2.1 o3.2.2.2.1 o3.2.2.2.2.1 o3.2.2.2.2.2.1 o3.2.2.2.2.2.2.1 o3.2.2.2.2.2.2.2.1 o3.2.2.2.2.2.2.2.2.1 o3.2.2.2.2.2.2.2.2.2.1 o3.2.2.2.2.2.2.2.2.2.2.1 o3.2.2.2.2.2.2.2.2.2.2.2.1 o3.2.2.2.2.2.2.2.2.2.2.2.2.1 o3.2.2.2.2.2.2.2.2.2.2.2.2.2.1 o3.2.2.2.2.2.2.2.2.2.2.2.2.2.2.1 o3.2.2.2.2.2.2.2.2.2.2.2.2.2.2.2.1 o3.2.2.2.2.2.2.2.2.2.2.2.2.2.2.2.2.1 o3.2.2.2.2.2.2.2.2.2.2.2.2.2.2.2.2.2.1 o3.2.2.2.2.2.2.2.2.2.2.2.2.2.2.2.2.2.2.1 o3.2.2.2.2.2.2.2.2.2.2.2.2.2.2.2.2.2.2.2.1 o3.2.2.2.2.2.2.2.2.2.2.2.2.2.2.2.2.2.2.2.2 mMet mUpper mLower mTape mTaped mPoint mEnd mBegin mFaultAt mFive mTold mActs y20 mViews mHullX mHullY mEndX mEndY mHeightUp mHeightLow mMeets mMeetsOf Rw) H → va_D (xsF X) (wM X o3.2.1 mWorld mImage mDraft mEarlier mRemembered mHasImage o3.2.2.1 o3.2.2.2.1 o3.2.2.2.2.1 o3.2.2.2.2.2.1 o3.2.2.2.2.2.2.1 o3.2.2.2.2.2.2.2.1 o3.2.2.2.2.2.2.2.2.1 o3.2.2.2.2.2.2.2.2.2.1 o3.2.2.2.2.2.2.2.2.2.2.1 o3.2.2.2.2.2.2.2.2.2.2.2.1 o3.2.2.2.2.2.2.2.2.2.2.2.2.1 o3.2.2.2.2.2.2.2.2.2.2.2.2.2.1 o3.2.2.2.2.2.2.2.2.2.2.2.2.2.2.1 o3.2.2.2.2.2.2.2.2.2.2.2.2.2.2.2.1 o3.2.2.2.2.2.2.2.2.2.2.2.2.2.2.2.2.1 o3.2.2.2.2.2.2.2.2.2.2.2.2.2.2.2.2.2.1 o3.2.2.2.2.2.2.2.2.2.2.2.2.2.2.2.2.2.2.1 o3.2.2.2.2.2.2.2.2.2.2.2.2.2.2.2.2.2.2.2.1 o3.2.2.2.2.2.2.2.2.2.2.2.2.2.2.2.2.2.2.2.2 mMet mUpper mLower mTape mTaped mPoint mEnd mBegin mFaultAt mFive mTold mActs y20 mViews mHullX mHullY mEndX mEndY mHeightUp mHeightLow mMeets mMeetsOf Rw) → va_S (xsF X) s.heap H locs → lv_has ls 8 [(0, .ref (xsA X 100)), (2, .int a1), (3, .int y19), (4, .int y10)] → W p l e { frames := 7, cells := 0, slots := 0, locals := 185 } s m ([.ref (xsA X 100), .int a0, .int a1] : List Value).toArray below meth c H locs 0 0 (MQ below Qq ([.ref (xsA X 100), .int a0, .int a1] : List Value).toArray s 0 0 (xsF X)) (F0 m 173 ls []) := by
              intro y19 y20 hf H locs ls hP hD hS hl
              unfold fX11_road_J173 at hf
              obtain ⟨x21, ex21⟩ : ∃ y : Int32, y = y10 + (1 : Int32) := ⟨_, rfl⟩
              replace hf := xsLt_use ex21 hf
              refine lv_iinc (v := x21) (lv' := [(4, .int x21), (0, .ref (xsA X 100)), (2, .int a1), (3, .int y19)]) hx hb dX11_road_173 hl (k := 3) rfl (by rw [ex21]; rfl) (by decide) rfl (fun ls hl => ?_)
              refine lv_goto (tgt := 55) hx hb dX11_road_176 (by decide) ?_
              exact ih12 _ (Option.some.inj hf).symm hk12 H locs ls hP hD hS (lv_sub hl [1, 2, 3, 0] rfl)
            replace hf := xsBd_use hf
            obtain ⟨r18, hk180, hf⟩ := hf
            have L18 : ∀ (sg : Int32 × Int32 × (Nat → Int32)) (rg : Int32 × (Nat → Int32)), xsWh (fun s18 => fX11_road_L64 o3 y10 s18.1 s18.2.1 s18.2.2) sg = some rg → (fX11_road_J173 y10 rg.1 rg.2 = some u12 → ∀ (H : Heap) (locs : List Loc) (ls : Array Slot), va_P (xsD X) vwCl (wM X o3.2.1 mWorld mImage mDraft mEarlier mRemembered mHasImage o3.2.2.1 o3.2.2.2.1 o3.2.2.2.2.1 o3.2.2.2.2.2.1 o3.2.2.2.2.2.2.1 o3.2.2.2.2.2.2.2.1 o3.2.2.2.2.2.2.2.2.1 o3.2.2.2.2.2.2.2.2.2.1 o3.2.2.2.2.2.2.2.2.2.2.1 o3.2.2.2.2.2.2.2.2.2.2.2.1 o3.2.2.2.2.2.2.2.2.2.2.2.2.1 o3.2.2.2.2.2.2.2.2.2.2.2.2.2.1 o3.2.2.2.2.2.2.2.2.2.2.2.2.2.2.1 o3.2.2.2.2.2.2.2.2.2.2.2.2.2.2.2.1 o3.2.2.2.2.2.2.2.2.2.2.2.2.2.2.2.2.1 o3.2.2.2.2.2.2.2.2.2.2.2.2.2.2.2.2.2.1 o3.2.2.2.2.2.2.2.2.2.2.2.2.2.2.2.2.2.2.1 o3.2.2.2.2.2.2.2.2.2.2.2.2.2.2.2.2.2.2.2.1 o3.2.2.2.2.2.2.2.2.2.2.2.2.2.2.2.2.2.2.2.2 mMet mUpper mLower mTape mTaped mPoint mEnd mBegin mFaultAt mFive mTold mActs sg.2.2 mViews mHullX mHullY mEndX mEndY mHeightUp mHeightLow mMeets mMeetsOf Rw) H → va_D (xsF X) (wM X o3.2.1 mWorld mImage mDraft mEarlier mRemembered mHasImage o3.2.2.1 o3.2.2.2.1 o3.2.2.2.2.1 o3.2.2.2.2.2.1 o3.2.2.2.2.2.2.1 o3.2.2.2.2.2.2.2.1 o3.2.2.2.2.2.2.2.2.1 o3.2.2.2.2.2.2.2.2.2.1 o3.2.2.2.2.2.2.2.2.2.2.1 o3.2.2.2.2.2.2.2.2.2.2.2.1 o3.2.2.2.2.2.2.2.2.2.2.2.2.1 o3.2.2.2.2.2.2.2.2.2.2.2.2.2.1 o3.2.2.2.2.2.2.2.2.2.2.2.2.2.2.1 o3.2.2.2.2.2.2.2.2.2.2.2.2.2.2.2.1 o3.2.2.2.2.2.2.2.2.2.2.2.2.2.2.2.2.1 o3.2.2.2.2.2.2.2.2.2.2.2.2.2.2.2.2.2.1 o3.2.2.2.2.2.2.2.2.2.2.2.2.2.2.2.2.2.2.1 o3.2.2.2.2.2.2.2.2.2.2.2.2.2.2.2.2.2.2.2.1 o3.2.2.2.2.2.2.2.2.2.2.2.2.2.2.2.2.2.2.2.2 mMet mUpper mLower mTape mTaped mPoint mEnd mBegin mFaultAt mFive mTold mActs sg.2.2 mViews mHullX mHullY mEndX mEndY mHeightUp mHeightLow mMeets mMeetsOf Rw) → va_S (xsF X) s.heap H locs → lv_has ls 8 [(0, .ref (xsA X 100)), (2, .int a1), (3, .int sg.1), (4, .int y10), (5, .int sg.2.1)] → W p l e { frames := 7, cells := 0, slots := 0, locals := 185 } s m ([.ref (xsA X 100), .int a0, .int a1] : List Value).toArray below meth c H locs 0 0 (MQ below Qq ([.ref (xsA X 100), .int a0, .int a1] : List Value).toArray s 0 0 (xsF X)) (F0 m 64 ls [])) := by
              refine xsWh_ind ?_
              intro sg r18 u18 hf ih18 hx18 hk18 H locs ls hP hD hS hl
              obtain ⟨y15, y16, y17⟩ := sg
              replace hf : fX11_road_L64 o3 y10 y15 y16 y17 = some u18 := hf
              replace hl : lv_has ls 8 [(0, .ref (xsA X 100)), (2, .int a1), (3, .int y15), (4, .int y10), (5, .int y16)] := hl
              replace hP : va_P (xsD X) vwCl (wM X o3.2.1 mWorld mImage mDraft mEarlier mRemembered mHasImage o3.2.2.1 o3.2.2.2.1 o3.2.2.2.2.1 o3.2.2.2.2.2.1 o3.2.2.2.2.2.2.1 o3.2.2.2.2.2.2.2.1 o3.2.2.2.2.2.2.2.2.1 o3.2.2.2.2.2.2.2.2.2.1 o3.2.2.2.2.2.2.2.2.2.2.1 o3.2.2.2.2.2.2.2.2.2.2.2.1 o3.2.2.2.2.2.2.2.2.2.2.2.2.1 o3.2.2.2.2.2.2.2.2.2.2.2.2.2.1 o3.2.2.2.2.2.2.2.2.2.2.2.2.2.2.1 o3.2.2.2.2.2.2.2.2.2.2.2.2.2.2.2.1 o3.2.2.2.2.2.2.2.2.2.2.2.2.2.2.2.2.1 o3.2.2.2.2.2.2.2.2.2.2.2.2.2.2.2.2.2.1 o3.2.2.2.2.2.2.2.2.2.2.2.2.2.2.2.2.2.2.1 o3.2.2.2.2.2.2.2.2.2.2.2.2.2.2.2.2.2.2.2.1 o3.2.2.2.2.2.2.2.2.2.2.2.2.2.2.2.2.2.2.2.2 mMet mUpper mLower mTape mTaped mPoint mEnd mBegin mFaultAt mFive mTold mActs y17 mViews mHullX mHullY mEndX mEndY mHeightUp mHeightLow mMeets mMeetsOf Rw) H := hP
              replace hD : va_D (xsF X) (wM X o3.2.1 mWorld mImage mDraft mEarlier mRemembered mHasImage o3.2.2.1 o3.2.2.2.1 o3.2.2.2.2.1 o3.2.2.2.2.2.1 o3.2.2.2.2.2.2.1 o3.2.2.2.2.2.2.2.1 o3.2.2.2.2.2.2.2.2.1 o3.2.2.2.2.2.2.2.2.2.1 o3.2.2.2.2.2.2.2.2.2.2.1 o3.2.2.2.2.2.2.2.2.2.2.2.1 o3.2.2.2.2.2.2.2.2.2.2.2.2.1 o3.2.2.2.2.2.2.2.2.2.2.2.2.2.1 o3.2.2.2.2.2.2.2.2.2.2.2.2.2.2.1 o3.2.2.2.2.2.2.2.2.2.2.2.2.2.2.2.1 o3.2.2.2.2.2.2.2.2.2.2.2.2.2.2.2.2.1 o3.2.2.2.2.2.2.2.2.2.2.2.2.2.2.2.2.2.1 o3.2.2.2.2.2.2.2.2.2.2.2.2.2.2.2.2.2.2.1 o3.2.2.2.2.2.2.2.2.2.2.2.2.2.2.2.2.2.2.2.1 o3.2.2.2.2.2.2.2.2.2.2.2.2.2.2.2.2.2.2.2.2 mMet mUpper mLower mTape mTaped mPoint mEnd mBegin mFaultAt mFive mTold mActs y17 mViews mHullX mHullY mEndX mEndY mHeightUp mHeightLow mMeets mMeetsOf Rw) := hD
              unfold fX11_road_L64 at hf
              refine lv_iload hx hb dX11_road_64 (lv_at hl 4 rfl) ?_
              refine lv_aload_n hx hb dX11_road_66 rfl (lv_at hl 0 rfl) ?_
              refine xg_X11_213 C hP dX11_road_67 ?_
              refine lv_icmp_ge (tgt := 173) hx hb dX11_road_70 (by decide) (fun c50 => ?_) (fun c50 => ?_)
              · replace hf := xsBr_t c50 hf
                have ez := hx18 _ (Option.some.inj hf).symm
                subst ez
                exact K18 y15 y17 hk18 H locs ls hP hD hS (lv_sub hl [0, 1, 2, 3] rfl)
              · replace hf := xsBr_f c50 hf
                refine lv_aload_n hx hb dX11_road_73 rfl (lv_at hl 0 rfl) ?_
                refine xg_X11_57 C hP dX11_road_74 ?_
                refine lv_iload hx hb dX11_road_77 (lv_at hl 4 rfl) ?_
                replace hf := xsCk_use hf
                obtain ⟨h22, hf⟩ := hf
                refine xl_mFrom C hP h22 dX11_road_79 ?_
                refine lv_topi (fun x23 ex23 => ?_)
                replace hf := xsLt_use ex23 hf
                refine lv_istore (lv' := [(6, .int x23), (0, .ref (xsA X 100)), (2, .int a1), (3, .int y15), (4, .int y10), (5, .int y16)]) hx hb dX11_road_80 hl (by decide) rfl (fun ls hl => ?_)
                refine lv_aload_n hx hb dX11_road_82 rfl (lv_at hl 1 rfl) ?_
                refine xg_X11_60 C hP dX11_road_83 ?_
                refine lv_iload hx hb dX11_road_86 (lv_at hl 5 rfl) ?_
                replace hf := xsCk_use hf
                obtain ⟨h24, hf⟩ := hf
                refine xl_mTo C hP h24 dX11_road_88 ?_
                refine lv_topi (fun x25 ex25 => ?_)
                replace hf := xsLt_use ex25 hf
                refine lv_istore (lv' := [(7, .int x25), (6, .int x23), (0, .ref (xsA X 100)), (2, .int a1), (3, .int y15), (4, .int y10), (5, .int y16)]) hx hb dX11_road_89 hl (by decide) rfl (fun ls hl => ?_)
                refine lv_aload_n hx hb dX11_road_91 rfl (lv_at hl 2 rfl) ?_
                refine xg_X11_85 C hP dX11_road_92 ?_
                refine lv_iload hx hb dX11_road_95 (lv_at hl 1 rfl) ?_
                replace hf := xsCk_use hf
                obtain ⟨h26, hf⟩ := hf
                refine xl_mFar C hP h26 dX11_road_97 ?_
                refine lv_iload hx hb dX11_road_98 (lv_at hl 5 rfl) ?_
                have K32 : ∀ (y27 : Int32) (y28 : Nat → Int32) (hf : fX11_road_J167 y16 y27 y28 = some u18) (H : Heap) (locs : List Loc) (ls : Array Slot), va_P (xsD X) vwCl (wM X o3.2.1 mWorld mImage mDraft mEarlier mRemembered mHasImage o3.2.2.1 o3.2.2.2.1 o3.2.2.2.2.1 o3.2.2.2.2.2.1 o3.2.2.2.2.2.2.1 o3.2.2.2.2.2.2.2.1 o3.2.2.2.2.2.2.2.2.1 o3.2.2.2.2.2.2.2.2.2.1 o3.2.2.2.2.2.2.2.2.2.2.1 o3.2.2.2.2.2.2.2.2.2.2.2.1 o3.2.2.2.2.2.2.2.2.2.2.2.2.1 o3.2.2.2.2.2.2.2.2.2.2.2.2.2.1 o3.2.2.2.2.2.2.2.2.2.2.2.2.2.2.1 o3.2.2.2.2.2.2.2.2.2.2.2.2.2.2.2.1 o3.2.2.2.2.2.2.2.2.2.2.2.2.2.2.2.2.1 o3.2.2.2.2.2.2.2.2.2.2.2.2.2.2.2.2.2.1 o3.2.2.2.2.2.2.2.2.2.2.2.2.2.2.2.2.2.2.1 o3.2.2.2.2.2.2.2.2.2.2.2.2.2.2.2.2.2.2.2.1 o3.2.2.2.2.2.2.2.2.2.2.2.2.2.2.2.2.2.2.2.2 mMet mUpper mLower mTape mTaped mPoint mEnd mBegin mFaultAt mFive mTold mActs y28 mViews mHullX mHullY mEndX mEndY mHeightUp mHeightLow mMeets mMeetsOf Rw) H → va_D (xsF X) (wM X o3.2.1 mWorld mImage mDraft mEarlier mRemembered mHasImage o3.2.2.1 o3.2.2.2.1 o3.2.2.2.2.1 o3.2.2.2.2.2.1 o3.2.2.2.2.2.2.1 o3.2.2.2.2.2.2.2.1 o3.2.2.2.2.2.2.2.2.1 o3.2.2.2.2.2.2.2.2.2.1 o3.2.2.2.2.2.2.2.2.2.2.1 o3.2.2.2.2.2.2.2.2.2.2.2.1 o3.2.2.2.2.2.2.2.2.2.2.2.2.1 o3.2.2.2.2.2.2.2.2.2.2.2.2.2.1 o3.2.2.2.2.2.2.2.2.2.2.2.2.2.2.1 o3.2.2.2.2.2.2.2.2.2.2.2.2.2.2.2.1 o3.2.2.2.2.2.2.2.2.2.2.2.2.2.2.2.2.1 o3.2.2.2.2.2.2.2.2.2.2.2.2.2.2.2.2.2.1 o3.2.2.2.2.2.2.2.2.2.2.2.2.2.2.2.2.2.2.1 o3.2.2.2.2.2.2.2.2.2.2.2.2.2.2.2.2.2.2.2.1 o3.2.2.2.2.2.2.2.2.2.2.2.2.2.2.2.2.2.2.2.2 mMet mUpper mLower mTape mTaped mPoint mEnd mBegin mFaultAt mFive mTold mActs y28 mViews mHullX mHullY mEndX mEndY mHeightUp mHeightLow mMeets mMeetsOf Rw) → va_S (xsF X) s.heap H locs → lv_has ls 8 [(0, .ref (xsA X 100)), (2, .int a1), (3, .int y27), (4, .int y10), (5, .int y16)] → W p l e { frames := 7, cells := 0, slots := 0, locals := 185 } s m ([.ref (xsA X 100), .int a0, .int a1] : List Value).toArray below meth c H locs 0 0 (MQ below Qq ([.ref (xsA X 100), .int a0, .int a1] : List Value).toArray s 0 0 (xsF X)) (F0 m 167 ls []) := by
                  intro y27 y28 hf H locs ls hP hD hS hl
                  unfold fX11_road_J167 at hf
                  obtain ⟨x29, ex29⟩ : ∃ y : Int32, y = y16 + (1 : Int32) := ⟨_, rfl⟩
                  replace hf := xsLt_use ex29 hf
                  refine lv_iinc (v := x29) (lv' := [(5, .int x29), (0, .ref (xsA X 100)), (2, .int a1), (3, .int y27), (4, .int y10)]) hx hb dX11_road_167 hl (k := 4) rfl (by rw [ex29]; rfl) (by decide) rfl (fun ls hl => ?_)
                  refine lv_goto (tgt := 64) hx hb dX11_road_170 (by decide) ?_
                  exact ih18 _ (Option.some.inj hf).symm hk18 H locs ls hP hD hS (lv_sub hl [1, 2, 3, 4, 0] rfl)
                replace hf := xsBd_use hf
                obtain ⟨v30, hf, hk31⟩ := hf
                have K41 : ∀ (hf : fX11_road_J137 y10 y17 x23 x25 = some v30) (H : Heap) (locs : List Loc) (ls : Array Slot), va_P (xsD X) vwCl (wM X o3.2.1 mWorld mImage mDraft mEarlier mRemembered mHasImage o3.2.2.1 o3.2.2.2.1 o3.2.2.2.2.1 o3.2.2.2.2.2.1 o3.2.2.2.2.2.2.1 o3.2.2.2.2.2.2.2.1 o3.2.2.2.2.2.2.2.2.1 o3.2.2.2.2.2.2.2.2.2.1 o3.2.2.2.2.2.2.2.2.2.2.1 o3.2.2.2.2.2.2.2.2.2.2.2.1 o3.2.2.2.2.2.2.2.2.2.2.2.2.1 o3.2.2.2.2.2.2.2.2.2.2.2.2.2.1 o3.2.2.2.2.2.2.2.2.2.2.2.2.2.2.1 o3.2.2.2.2.2.2.2.2.2.2.2.2.2.2.2.1 o3.2.2.2.2.2.2.2.2.2.2.2.2.2.2.2.2.1 o3.2.2.2.2.2.2.2.2.2.2.2.2.2.2.2.2.2.1 o3.2.2.2.2.2.2.2.2.2.2.2.2.2.2.2.2.2.2.1 o3.2.2.2.2.2.2.2.2.2.2.2.2.2.2.2.2.2.2.2.1 o3.2.2.2.2.2.2.2.2.2.2.2.2.2.2.2.2.2.2.2.2 mMet mUpper mLower mTape mTaped mPoint mEnd mBegin mFaultAt mFive mTold mActs y17 mViews mHullX mHullY mEndX mEndY mHeightUp mHeightLow mMeets mMeetsOf Rw) H → va_D (xsF X) (wM X o3.2.1 mWorld mImage mDraft mEarlier mRemembered mHasImage o3.2.2.1 o3.2.2.2.1 o3.2.2.2.2.1 o3.2.2.2.2.2.1 o3.2.2.2.2.2.2.1 o3.2.2.2.2.2.2.2.1 o3.2.2.2.2.2.2.2.2.1 o3.2.2.2.2.2.2.2.2.2.1 o3.2.2.2.2.2.2.2.2.2.2.1 o3.2.2.2.2.2.2.2.2.2.2.2.1 o3.2.2.2.2.2.2.2.2.2.2.2.2.1 o3.2.2.2.2.2.2.2.2.2.2.2.2.2.1 o3.2.2.2.2.2.2.2.2.2.2.2.2.2.2.1 o3.2.2.2.2.2.2.2.2.2.2.2.2.2.2.2.1 o3.2.2.2.2.2.2.2.2.2.2.2.2.2.2.2.2.1 o3.2.2.2.2.2.2.2.2.2.2.2.2.2.2.2.2.2.1 o3.2.2.2.2.2.2.2.2.2.2.2.2.2.2.2.2.2.2.1 o3.2.2.2.2.2.2.2.2.2.2.2.2.2.2.2.2.2.2.2.1 o3.2.2.2.2.2.2.2.2.2.2.2.2.2.2.2.2.2.2.2.2 mMet mUpper mLower mTape mTaped mPoint mEnd mBegin mFaultAt mFive mTold mActs y17 mViews mHullX mHullY mEndX mEndY mHeightUp mHeightLow mMeets mMeetsOf Rw) → va_S (xsF X) s.heap H locs → lv_has ls 8 [(0, .ref (xsA X 100)), (2, .int a1), (4, .int y10), (5, .int y16), (6, .int x23), (7, .int x25)] → W p l e { frames := 7, cells := 0, slots := 0, locals := 185 } s m ([.ref (xsA X 100), .int a0, .int a1] : List Value).toArray below meth c H locs 0 0 (MQ below Qq ([.ref (xsA X 100), .int a0, .int a1] : List Value).toArray s 0 0 (xsF X)) (F0 m 137 ls []) := by
                  intro hf H locs ls hP hD hS hl
                  unfold fX11_road_J137 at hf
                  refine lv_aload_n hx hb dX11_road_137 rfl (lv_at hl 0 rfl) ?_
                  refine xg_X11_85 C hP dX11_road_138 ?_
                  refine lv_aload_n hx hb dX11_road_141 rfl (lv_at hl 0 rfl) ?_
                  refine xg_X11_85 C hP dX11_road_142 ?_
                  refine lv_iload hx hb dX11_road_145 (lv_at hl 4 rfl) ?_
                  replace hf := xsCk_use hf
                  obtain ⟨h33, hf⟩ := hf
                  refine xl_mFar C hP h33 dX11_road_147 ?_
                  refine lv_iload hx hb dX11_road_148 (lv_at hl 2 rfl) ?_
                  have K39 : ∀ (y34 : Int32) (hf : fX11_road_J160 y10 y17 y34 = some v30) (H : Heap) (locs : List Loc) (ls : Array Slot), va_P (xsD X) vwCl (wM X o3.2.1 mWorld mImage mDraft mEarlier mRemembered mHasImage o3.2.2.1 o3.2.2.2.1 o3.2.2.2.2.1 o3.2.2.2.2.2.1 o3.2.2.2.2.2.2.1 o3.2.2.2.2.2.2.2.1 o3.2.2.2.2.2.2.2.2.1 o3.2.2.2.2.2.2.2.2.2.1 o3.2.2.2.2.2.2.2.2.2.2.1 o3.2.2.2.2.2.2.2.2.2.2.2.1 o3.2.2.2.2.2.2.2.2.2.2.2.2.1 o3.2.2.2.2.2.2.2.2.2.2.2.2.2.1 o3.2.2.2.2.2.2.2.2.2.2.2.2.2.2.1 o3.2.2.2.2.2.2.2.2.2.2.2.2.2.2.2.1 o3.2.2.2.2.2.2.2.2.2.2.2.2.2.2.2.2.1 o3.2.2.2.2.2.2.2.2.2.2.2.2.2.2.2.2.2.1 o3.2.2.2.2.2.2.2.2.2.2.2.2.2.2.2.2.2.2.1 o3.2.2.2.2.2.2.2.2.2.2.2.2.2.2.2.2.2.2.2.1 o3.2.2.2.2.2.2.2.2.2.2.2.2.2.2.2.2.2.2.2.2 mMet mUpper mLower mTape mTaped mPoint mEnd mBegin mFaultAt mFive mTold mActs y17 mViews mHullX mHullY mEndX mEndY mHeightUp mHeightLow mMeets mMeetsOf Rw) H → va_D (xsF X) (wM X o3.2.1 mWorld mImage mDraft mEarlier mRemembered mHasImage o3.2.2.1 o3.2.2.2.1 o3.2.2.2.2.1 o3.2.2.2.2.2.1 o3.2.2.2.2.2.2.1 o3.2.2.2.2.2.2.2.1 o3.2.2.2.2.2.2.2.2.1 o3.2.2.2.2.2.2.2.2.2.1 o3.2.2.2.2.2.2.2.2.2.2.1 o3.2.2.2.2.2.2.2.2.2.2.2.1 o3.2.2.2.2.2.2.2.2.2.2.2.2.1 o3.2.2.2.2.2.2.2.2.2.2.2.2.2.1 o3.2.2.2.2.2.2.2.2.2.2.2.2.2.2.1 o3.2.2.2.2.2.2.2.2.2.2.2.2.2.2.2.1 o3.2.2.2.2.2.2.2.2.2.2.2.2.2.2.2.2.1 o3.2.2.2.2.2.2.2.2.2.2.2.2.2.2.2.2.2.1 o3.2.2.2.2.2.2.2.2.2.2.2.2.2.2.2.2.2.2.1 o3.2.2.2.2.2.2.2.2.2.2.2.2.2.2.2.2.2.2.2.1 o3.2.2.2.2.2.2.2.2.2.2.2.2.2.2.2.2.2.2.2.2 mMet mUpper mLower mTape mTaped mPoint mEnd mBegin mFaultAt mFive mTold mActs y17 mViews mHullX mHullY mEndX mEndY mHeightUp mHeightLow mMeets mMeetsOf Rw) → va_S (xsF X) s.heap H locs → lv_has ls 8 [(0, .ref (xsA X 100)), (2, .int a1), (4, .int y10), (5, .int y16)] → W p l e { frames := 7, cells := 0, slots := 0, locals := 185 } s m ([.ref (xsA X 100), .int a0, .int a1] : List Value).toArray below meth c H locs 0 0 (MQ below Qq ([.ref (xsA X 100), .int a0, .int a1] : List Value).toArray s 0 0 (xsF X)) (F0 m 160 ls [.int y34, .ref (xsA X 123)]) := by
                    intro y34 hf H locs ls hP hD hS hl
                    unfold fX11_road_J160 at hf
                    refine lv_iload hx hb dX11_road_160 (lv_at hl 2 rfl) ?_
                    refine lv_iconst (v := (1 : Int32)) hx hb dX11_road_162 (by decide) ?_
                    refine lv_iadd hx hb dX11_road_163 ?_
                    replace hf := xsCk_use hf
                    obtain ⟨h35, hf⟩ := hf
                    refine xs_mFar C hP hD hS h35 dX11_road_164 (fun f36 ef36 H locs hP hD hS => ?_)
                    replace hf := xsLt_use ef36 hf
                    refine lv_iconst (v := (1 : Int32)) hx hb dX11_road_165 (by decide) ?_
                    refine lv_istore_n (lv' := [(3, .int (1 : Int32)), (0, .ref (xsA X 100)), (2, .int a1), (4, .int y10), (5, .int y16)]) hx hb dX11_road_166 rfl hl (by decide) rfl (fun ls hl => ?_)
                    have ev := Option.some.inj hf
                    subst ev
                    exact K32 (1 : Int32) f36 hk31 H locs ls hP hD hS (lv_sub hl [1, 2, 0, 3, 4] rfl)
                  replace hf := xsBd_use hf
                  obtain ⟨v37, hf, hk38⟩ := hf
                  refine lv_icmp_ne (tgt := 158) hx hb dX11_road_150 (by decide) (fun c40 => ?_) (fun c40 => ?_)
                  · replace hf := xsBr_f c40 hf
                    refine lv_iload hx hb dX11_road_158 (lv_at hl 4 rfl) ?_
                    have ev := Option.some.inj hf
                    subst ev
                    exact K39 x23 hk38 H locs ls hP hD hS (lv_sub hl [0, 1, 2, 3] rfl)
                  · replace hf := xsBr_t c40 hf
                    refine lv_iload hx hb dX11_road_153 (lv_at hl 5 rfl) ?_
                    refine lv_goto (tgt := 160) hx hb dX11_road_155 (by decide) ?_
                    have ev := Option.some.inj hf
                    subst ev
                    exact K39 x25 hk38 H locs ls hP hD hS (lv_sub hl [0, 1, 2, 3] rfl)
                have K46 : ∀ (hf : fX11_road_J114 y10 y15 y17 x23 x25 = some v30) (H : Heap) (locs : List Loc) (ls : Array Slot), va_P (xsD X) vwCl (wM X o3.2.1 mWorld mImage mDraft mEarlier mRemembered mHasImage o3.2.2.1 o3.2.2.2.1 o3.2.2.2.2.1 o3.2.2.2.2.2.1 o3.2.2.2.2.2.2.1 o3.2.2.2.2.2.2.2.1 o3.2.2.2.2.2.2.2.2.1 o3.2.2.2.2.2.2.2.2.2.1 o3.2.2.2.2.2.2.2.2.2.2.1 o3.2.2.2.2.2.2.2.2.2.2.2.1 o3.2.2.2.2.2.2.2.2.2.2.2.2.1 o3.2.2.2.2.2.2.2.2.2.2.2.2.2.1 o3.2.2.2.2.2.2.2.2.2.2.2.2.2.2.1 o3.2.2.2.2.2.2.2.2.2.2.2.2.2.2.2.1 o3.2.2.2.2.2.2.2.2.2.2.2.2.2.2.2.2.1 o3.2.2.2.2.2.2.2.2.2.2.2.2.2.2.2.2.2.1 o3.2.2.2.2.2.2.2.2.2.2.2.2.2.2.2.2.2.2.1 o3.2.2.2.2.2.2.2.2.2.2.2.2.2.2.2.2.2.2.2.1 o3.2.2.2.2.2.2.2.2.2.2.2.2.2.2.2.2.2.2.2.2 mMet mUpper mLower mTape mTaped mPoint mEnd mBegin mFaultAt mFive mTold mActs y17 mViews mHullX mHullY mEndX mEndY mHeightUp mHeightLow mMeets mMeetsOf Rw) H → va_D (xsF X) (wM X o3.2.1 mWorld mImage mDraft mEarlier mRemembered mHasImage o3.2.2.1 o3.2.2.2.1 o3.2.2.2.2.1 o3.2.2.2.2.2.1 o3.2.2.2.2.2.2.1 o3.2.2.2.2.2.2.2.1 o3.2.2.2.2.2.2.2.2.1 o3.2.2.2.2.2.2.2.2.2.1 o3.2.2.2.2.2.2.2.2.2.2.1 o3.2.2.2.2.2.2.2.2.2.2.2.1 o3.2.2.2.2.2.2.2.2.2.2.2.2.1 o3.2.2.2.2.2.2.2.2.2.2.2.2.2.1 o3.2.2.2.2.2.2.2.2.2.2.2.2.2.2.1 o3.2.2.2.2.2.2.2.2.2.2.2.2.2.2.2.1 o3.2.2.2.2.2.2.2.2.2.2.2.2.2.2.2.2.1 o3.2.2.2.2.2.2.2.2.2.2.2.2.2.2.2.2.2.1 o3.2.2.2.2.2.2.2.2.2.2.2.2.2.2.2.2.2.2.1 o3.2.2.2.2.2.2.2.2.2.2.2.2.2.2.2.2.2.2.2.1 o3.2.2.2.2.2.2.2.2.2.2.2.2.2.2.2.2.2.2.2.2 mMet mUpper mLower mTape mTaped mPoint mEnd mBegin mFaultAt mFive mTold mActs y17 mViews mHullX mHullY mEndX mEndY mHeightUp mHeightLow mMeets mMeetsOf Rw) → va_S (xsF X) s.heap H locs → lv_has ls 8 [(0, .ref (xsA X 100)), (2, .int a1), (3, .int y15), (4, .int y10), (5, .int y16), (6, .int x23), (7, .int x25)] → W p l e { frames := 7, cells := 0, slots := 0, locals := 185 } s m ([.ref (xsA X 100), .int a0, .int a1] : List Value).toArray below meth c H locs 0 0 (MQ below Qq ([.ref (xsA X 100), .int a0, .int a1] : List Value).toArray s 0 0 (xsF X)) (F0 m 114 ls []) := by
                  intro hf H locs ls hP hD hS hl
                  unfold fX11_road_J114 at hf
                  refine lv_aload_n hx hb dX11_road_114 rfl (lv_at hl 0 rfl) ?_
                  refine xg_X11_85 C hP dX11_road_115 ?_
                  refine lv_iload hx hb dX11_road_118 (lv_at hl 6 rfl) ?_
                  replace hf := xsCk_use hf
                  obtain ⟨h42, hf⟩ := hf
                  refine xl_mFar C hP h42 dX11_road_120 ?_
                  refine lv_iload hx hb dX11_road_121 (lv_at hl 3 rfl) ?_
                  refine lv_icmp_ne (tgt := 167) hx hb dX11_road_123 (by decide) (fun c45 => ?_) (fun c45 => ?_)
                  · replace hf := xsBr_f c45 hf
                    have ev := Option.some.inj hf
                    subst ev
                    exact K32 y15 y17 hk31 H locs ls hP hD hS (lv_sub hl [0, 1, 2, 3, 4] rfl)
                  · replace hf := xsBr_t c45 hf
                    refine lv_aload_n hx hb dX11_road_126 rfl (lv_at hl 0 rfl) ?_
                    refine xg_X11_85 C hP dX11_road_127 ?_
                    refine lv_iload hx hb dX11_road_130 (lv_at hl 5 rfl) ?_
                    replace hf := xsCk_use hf
                    obtain ⟨h43, hf⟩ := hf
                    refine xl_mFar C hP h43 dX11_road_132 ?_
                    refine lv_iconst (v := (-1 : Int32)) hx hb dX11_road_133 (by decide) ?_
                    refine lv_icmp_ne (tgt := 167) hx hb dX11_road_134 (by decide) (fun c44 => ?_) (fun c44 => ?_)
                    · replace hf := xsBr_f c44 hf
                      have ev := Option.some.inj hf
                      subst ev
                      exact K32 y15 y17 hk31 H locs ls hP hD hS (lv_sub hl [0, 1, 2, 3, 4] rfl)
                    · replace hf := xsBr_t c44 hf
                      exact K41 hf H locs ls hP hD hS (lv_sub hl [0, 1, 3, 4, 5, 6] rfl)
                refine lv_icmp_ne (tgt := 114) hx hb dX11_road_100 (by decide) (fun c49 => ?_) (fun c49 => ?_)
                · replace hf := xsBr_f c49 hf
                  exact K46 hf H locs ls hP hD hS (lv_sub hl [2, 3, 4, 5, 6, 1, 0] rfl)
                · replace hf := xsBr_t c49 hf
                  refine lv_aload_n hx hb dX11_road_103 rfl (lv_at hl 2 rfl) ?_
                  refine xg_X11_85 C hP dX11_road_104 ?_
                  refine lv_iload hx hb dX11_road_107 (lv_at hl 0 rfl) ?_
                  replace hf := xsCk_use hf
                  obtain ⟨h47, hf⟩ := hf
                  refine xl_mFar C hP h47 dX11_road_109 ?_
                  refine lv_iconst (v := (-1 : Int32)) hx hb dX11_road_110 (by decide) ?_
                  refine lv_icmp_eq (tgt := 137) hx hb dX11_road_111 (by decide) (fun c48 => ?_) (fun c48 => ?_)
                  · replace hf := xsBr_t c48 hf
                    exact K41 hf H locs ls hP hD hS (lv_sub hl [2, 3, 5, 6, 1, 0] rfl)
                  · replace hf := xsBr_f c48 hf
                    exact K46 hf H locs ls hP hD hS (lv_sub hl [2, 3, 4, 5, 6, 1, 0] rfl)
            exact L18 ((0 : Int32), (0 : Int32), y11) r18 hk180 hf H locs ls hP hD hS (lv_sub hl [2, 3, 1, 4, 0] rfl)
        exact L12 ((1 : Int32), (0 : Int32), y8) r12 hk120 hf H locs ls hP hD hS (lv_sub hl [2, 3, 1, 0] rfl)
      replace hf := xsBd_use hf
      obtain ⟨r7, hk70, hf⟩ := hf
      have L7 : ∀ (sg : Int32 × (Nat → Int32)) (rg : (Nat → Int32)), xsWh (fun s7 => fX11_road_L20 a0 o3 s7.1 s7.2) sg = some rg → (fX11_road_J50 a1 o3 rg = some out → ∀ (H : Heap) (locs : List Loc) (ls : Array Slot), va_P (xsD X) vwCl (wM X o3.2.1 mWorld mImage mDraft mEarlier mRemembered mHasImage o3.2.2.1 o3.2.2.2.1 o3.2.2.2.2.1 o3.2.2.2.2.2.1 o3.2.2.2.2.2.2.1 o3.2.2.2.2.2.2.2.1 o3.2.2.2.2.2.2.2.2.1 o3.2.2.2.2.2.2.2.2.2.1 o3.2.2.2.2.2.2.2.2.2.2.1 o3.2.2.2.2.2.2.2.2.2.2.2.1 o3.2.2.2.2.2.2.2.2.2.2.2.2.1 o3.2.2.2.2.2.2.2.2.2.2.2.2.2.1 o3.2.2.2.2.2.2.2.2.2.2.2.2.2.2.1 o3.2.2.2.2.2.2.2.2.2.2.2.2.2.2.2.1 o3.2.2.2.2.2.2.2.2.2.2.2.2.2.2.2.2.1 o3.2.2.2.2.2.2.2.2.2.2.2.2.2.2.2.2.2.1 o3.2.2.2.2.2.2.2.2.2.2.2.2.2.2.2.2.2.2.1 o3.2.2.2.2.2.2.2.2.2.2.2.2.2.2.2.2.2.2.2.1 o3.2.2.2.2.2.2.2.2.2.2.2.2.2.2.2.2.2.2.2.2 mMet mUpper mLower mTape mTaped mPoint mEnd mBegin mFaultAt mFive mTold mActs sg.2 mViews mHullX mHullY mEndX mEndY mHeightUp mHeightLow mMeets mMeetsOf Rw) H → va_D (xsF X) (wM X o3.2.1 mWorld mImage mDraft mEarlier mRemembered mHasImage o3.2.2.1 o3.2.2.2.1 o3.2.2.2.2.1 o3.2.2.2.2.2.1 o3.2.2.2.2.2.2.1 o3.2.2.2.2.2.2.2.1 o3.2.2.2.2.2.2.2.2.1 o3.2.2.2.2.2.2.2.2.2.1 o3.2.2.2.2.2.2.2.2.2.2.1 o3.2.2.2.2.2.2.2.2.2.2.2.1 o3.2.2.2.2.2.2.2.2.2.2.2.2.1 o3.2.2.2.2.2.2.2.2.2.2.2.2.2.1 o3.2.2.2.2.2.2.2.2.2.2.2.2.2.2.1 o3.2.2.2.2.2.2.2.2.2.2.2.2.2.2.2.1 o3.2.2.2.2.2.2.2.2.2.2.2.2.2.2.2.2.1 o3.2.2.2.2.2.2.2.2.2.2.2.2.2.2.2.2.2.1 o3.2.2.2.2.2.2.2.2.2.2.2.2.2.2.2.2.2.2.1 o3.2.2.2.2.2.2.2.2.2.2.2.2.2.2.2.2.2.2.2.1 o3.2.2.2.2.2.2.2.2.2.2.2.2.2.2.2.2.2.2.2.2 mMet mUpper mLower mTape mTaped mPoint mEnd mBegin mFaultAt mFive mTold mActs sg.2 mViews mHullX mHullY mEndX mEndY mHeightUp mHeightLow mMeets mMeetsOf Rw) → va_S (xsF X) s.heap H locs → lv_has ls 8 [(0, .ref (xsA X 100)), (1, .int a0), (2, .int a1), (3, .int sg.1)] → W p l e { frames := 7, cells := 0, slots := 0, locals := 185 } s m ([.ref (xsA X 100), .int a0, .int a1] : List Value).toArray below meth c H locs 0 0 (MQ below Qq ([.ref (xsA X 100), .int a0, .int a1] : List Value).toArray s 0 0 (xsF X)) (F0 m 20 ls [])) := by
        refine xsWh_ind ?_
        intro sg r7 u7 hf ih7 hx7 hk7 H locs ls hP hD hS hl
        obtain ⟨y5, y6⟩ := sg
        replace hf : fX11_road_L20 a0 o3 y5 y6 = some u7 := hf
        replace hl : lv_has ls 8 [(0, .ref (xsA X 100)), (1, .int a0), (2, .int a1), (3, .int y5)] := hl
        replace hP : va_P (xsD X) vwCl (wM X o3.2.1 mWorld mImage mDraft mEarlier mRemembered mHasImage o3.2.2.1 o3.2.2.2.1 o3.2.2.2.2.1 o3.2.2.2.2.2.1 o3.2.2.2.2.2.2.1 o3.2.2.2.2.2.2.2.1 o3.2.2.2.2.2.2.2.2.1 o3.2.2.2.2.2.2.2.2.2.1 o3.2.2.2.2.2.2.2.2.2.2.1 o3.2.2.2.2.2.2.2.2.2.2.2.1 o3.2.2.2.2.2.2.2.2.2.2.2.2.1 o3.2.2.2.2.2.2.2.2.2.2.2.2.2.1 o3.2.2.2.2.2.2.2.2.2.2.2.2.2.2.1 o3.2.2.2.2.2.2.2.2.2.2.2.2.2.2.2.1 o3.2.2.2.2.2.2.2.2.2.2.2.2.2.2.2.2.1 o3.2.2.2.2.2.2.2.2.2.2.2.2.2.2.2.2.2.1 o3.2.2.2.2.2.2.2.2.2.2.2.2.2.2.2.2.2.2.1 o3.2.2.2.2.2.2.2.2.2.2.2.2.2.2.2.2.2.2.2.1 o3.2.2.2.2.2.2.2.2.2.2.2.2.2.2.2.2.2.2.2.2 mMet mUpper mLower mTape mTaped mPoint mEnd mBegin mFaultAt mFive mTold mActs y6 mViews mHullX mHullY mEndX mEndY mHeightUp mHeightLow mMeets mMeetsOf Rw) H := hP
        replace hD : va_D (xsF X) (wM X o3.2.1 mWorld mImage mDraft mEarlier mRemembered mHasImage o3.2.2.1 o3.2.2.2.1 o3.2.2.2.2.1 o3.2.2.2.2.2.1 o3.2.2.2.2.2.2.1 o3.2.2.2.2.2.2.2.1 o3.2.2.2.2.2.2.2.2.1 o3.2.2.2.2.2.2.2.2.2.1 o3.2.2.2.2.2.2.2.2.2.2.1 o3.2.2.2.2.2.2.2.2.2.2.2.1 o3.2.2.2.2.2.2.2.2.2.2.2.2.1 o3.2.2.2.2.2.2.2.2.2.2.2.2.2.1 o3.2.2.2.2.2.2.2.2.2.2.2.2.2.2.1 o3.2.2.2.2.2.2.2.2.2.2.2.2.2.2.2.1 o3.2.2.2.2.2.2.2.2.2.2.2.2.2.2.2.2.1 o3.2.2.2.2.2.2.2.2.2.2.2.2.2.2.2.2.2.1 o3.2.2.2.2.2.2.2.2.2.2.2.2.2.2.2.2.2.2.1 o3.2.2.2.2.2.2.2.2.2.2.2.2.2.2.2.2.2.2.2.1 o3.2.2.2.2.2.2.2.2.2.2.2.2.2.2.2.2.2.2.2.2 mMet mUpper mLower mTape mTaped mPoint mEnd mBegin mFaultAt mFive mTold mActs y6 mViews mHullX mHullY mEndX mEndY mHeightUp mHeightLow mMeets mMeetsOf Rw) := hD
        unfold fX11_road_L20 at hf
        refine lv_iload_n hx hb dX11_road_20 rfl (lv_at hl 3 rfl) ?_
        refine lv_aload_n hx hb dX11_road_21 rfl (lv_at hl 0 rfl) ?_
        refine xg_X11_193 C hP dX11_road_22 ?_
        refine lv_icmp_ge (tgt := 50) hx hb dX11_road_25 (by decide) (fun c60 => ?_) (fun c60 => ?_)
        · replace hf := xsBr_t c60 hf
          have ez := hx7 _ (Option.some.inj hf).symm
          subst ez
          exact K7 y6 hk7 H locs ls hP hD hS (lv_sub hl [0, 2] rfl)
        · replace hf := xsBr_f c60 hf
          refine lv_aload_n hx hb dX11_road_28 rfl (lv_at hl 0 rfl) ?_
          refine xg_X11_85 C hP dX11_road_29 ?_
          refine lv_iload_n hx hb dX11_road_32 rfl (lv_at hl 3 rfl) ?_
          refine lv_iload_n hx hb dX11_road_33 rfl (lv_at hl 3 rfl) ?_
          refine lv_iload_n hx hb dX11_road_34 rfl (lv_at hl 1 rfl) ?_
          have K58 : ∀ (y52 : Int32) (hf : fX11_road_J43 y5 y6 y52 = some u7) (H : Heap) (locs : List Loc) (ls : Array Slot), va_P (xsD X) vwCl (wM X o3.2.1 mWorld mImage mDraft mEarlier mRemembered mHasImage o3.2.2.1 o3.2.2.2.1 o3.2.2.2.2.1 o3.2.2.2.2.2.1 o3.2.2.2.2.2.2.1 o3.2.2.2.2.2.2.2.1 o3.2.2.2.2.2.2.2.2.1 o3.2.2.2.2.2.2.2.2.2.1 o3.2.2.2.2.2.2.2.2.2.2.1 o3.2.2.2.2.2.2.2.2.2.2.2.1 o3.2.2.2.2.2.2.2.2.2.2.2.2.1 o3.2.2.2.2.2.2.2.2.2.2.2.2.2.1 o3.2.2.2.2.2.2.2.2.2.2.2.2.2.2.1 o3.2.2.2.2.2.2.2.2.2.2.2.2.2.2.2.1 o3.2.2.2.2.2.2.2.2.2.2.2.2.2.2.2.2.1 o3.2.2.2.2.2.2.2.2.2.2.2.2.2.2.2.2.2.1 o3.2.2.2.2.2.2.2.2.2.2.2.2.2.2.2.2.2.2.1 o3.2.2.2.2.2.2.2.2.2.2.2.2.2.2.2.2.2.2.2.1 o3.2.2.2.2.2.2.2.2.2.2.2.2.2.2.2.2.2.2.2.2 mMet mUpper mLower mTape mTaped mPoint mEnd mBegin mFaultAt mFive mTold mActs y6 mViews mHullX mHullY mEndX mEndY mHeightUp mHeightLow mMeets mMeetsOf Rw) H → va_D (xsF X) (wM X o3.2.1 mWorld mImage mDraft mEarlier mRemembered mHasImage o3.2.2.1 o3.2.2.2.1 o3.2.2.2.2.1 o3.2.2.2.2.2.1 o3.2.2.2.2.2.2.1 o3.2.2.2.2.2.2.2.1 o3.2.2.2.2.2.2.2.2.1 o3.2.2.2.2.2.2.2.2.2.1 o3.2.2.2.2.2.2.2.2.2.2.1 o3.2.2.2.2.2.2.2.2.2.2.2.1 o3.2.2.2.2.2.2.2.2.2.2.2.2.1 o3.2.2.2.2.2.2.2.2.2.2.2.2.2.1 o3.2.2.2.2.2.2.2.2.2.2.2.2.2.2.1 o3.2.2.2.2.2.2.2.2.2.2.2.2.2.2.2.1 o3.2.2.2.2.2.2.2.2.2.2.2.2.2.2.2.2.1 o3.2.2.2.2.2.2.2.2.2.2.2.2.2.2.2.2.2.1 o3.2.2.2.2.2.2.2.2.2.2.2.2.2.2.2.2.2.2.1 o3.2.2.2.2.2.2.2.2.2.2.2.2.2.2.2.2.2.2.2.1 o3.2.2.2.2.2.2.2.2.2.2.2.2.2.2.2.2.2.2.2.2 mMet mUpper mLower mTape mTaped mPoint mEnd mBegin mFaultAt mFive mTold mActs y6 mViews mHullX mHullY mEndX mEndY mHeightUp mHeightLow mMeets mMeetsOf Rw) → va_S (xsF X) s.heap H locs → lv_has ls 8 [(0, .ref (xsA X 100)), (1, .int a0), (2, .int a1), (3, .int y5)] → W p l e { frames := 7, cells := 0, slots := 0, locals := 185 } s m ([.ref (xsA X 100), .int a0, .int a1] : List Value).toArray below meth c H locs 0 0 (MQ below Qq ([.ref (xsA X 100), .int a0, .int a1] : List Value).toArray s 0 0 (xsF X)) (F0 m 43 ls [.int y52, .int y5, .ref (xsA X 123)]) := by
            intro y52 hf H locs ls hP hD hS hl
            unfold fX11_road_J43 at hf
            replace hf := xsCk_use hf
            obtain ⟨h53, hf⟩ := hf
            refine xs_mFar C hP hD hS h53 dX11_road_43 (fun f54 ef54 H locs hP hD hS => ?_)
            replace hf := xsLt_use ef54 hf
            obtain ⟨x55, ex55⟩ : ∃ y : Int32, y = y5 + (1 : Int32) := ⟨_, rfl⟩
            replace hf := xsLt_use ex55 hf
            refine lv_iinc (v := x55) (lv' := [(3, .int x55), (0, .ref (xsA X 100)), (1, .int a0), (2, .int a1)]) hx hb dX11_road_44 hl (k := 3) rfl (by rw [ex55]; rfl) (by decide) rfl (fun ls hl => ?_)
            refine lv_goto (tgt := 20) hx hb dX11_road_47 (by decide) ?_
            exact ih7 _ (Option.some.inj hf).symm hk7 H locs ls hP hD hS (lv_sub hl [1, 2, 3, 0] rfl)
          replace hf := xsBd_use hf
          obtain ⟨v56, hf, hk57⟩ := hf
          refine lv_icmp_ne (tgt := 42) hx hb dX11_road_35 (by decide) (fun c59 => ?_) (fun c59 => ?_)
          · replace hf := xsBr_f c59 hf
            refine lv_iconst (v := (-1 : Int32)) hx hb dX11_road_42 (by decide) ?_
            have ev := Option.some.inj hf
            subst ev
            exact K58 (-1 : Int32) hk57 H locs ls hP hD hS (lv_sub hl [0, 1, 2, 3] rfl)
          · replace hf := xsBr_t c59 hf
            refine lv_iconst (v := (0 : Int32)) hx hb dX11_road_38 (by decide) ?_
            refine lv_goto (tgt := 43) hx hb dX11_road_39 (by decide) ?_
            have ev := Option.some.inj hf
            subst ev
            exact K58 (0 : Int32) hk57 H locs ls hP hD hS (lv_sub hl [0, 1, 2, 3] rfl)
      exact L7 ((0 : Int32), mFar) r7 hk70 hf H locs ls hP hD hS (lv_sub hl [1, 2, 3, 0] rfl)
    · replace hf := xsBr_f c61 hf
      refine lv_iconst (v := (0 : Int32)) hx hb dX11_road_16 (by decide) ?_
      have ho := Option.some.inj hf
      subst ho
      rw [hQq]
      exact xs_iret C hr hlk hP hD hS dX11_road_17
set_option maxRecDepth 100000 in
set_option maxHeartbeats 8000000 in
theorem mX11_laysView (l : Launch) {X : xsX} {mThrown mRemembered mHasImage mIsLaid mEvents mCrossings mEdges mTaped mPoint mEnd mBegin mFaultAt mActs : Int32} {mWorld mImage mDraft mEarlier mOne mTwo mShare mCrossingOf mBundle mEventOf mDegree mFrom mTo mMet mTape mFive mTold mFar mViews mHullX mHullY mEndX mEndY mMeets mMeetsOf : Nat → Int32} {mX mY mD mHeightUp mHeightLow : Int64} {mEventX mEventY mEventD mUpper mLower : Nat → Int64} {Rw : va_W} {out : Int32 × Int32 × (Nat → Int32) × (Nat → Int32) × (Nat → Int32) × Int64 × Int64 × Int64 × (Nat → Int64) × (Nat → Int64) × (Nat → Int64) × Int32 × (Nat → Int32) × (Nat → Int32) × (Nat → Int32) × (Nat → Int32) × (Nat → Int32) × (Nat → Int32) × Int32 × Int32 × (Nat → Int32) × (Nat → Int64) × (Nat → Int64) × (Nat → Int32)} (hf : fX11_laysView mWorld mIsLaid mOne mTwo mShare mX mY mD mEventX mEventY mEventD mEvents mCrossingOf mBundle mEventOf mDegree mFrom mTo mCrossings mEdges mMet mUpper mLower mViews = some out) : Met l yX11_laysView (xsWs yX11_laysView cX11_laysView 5 (some .int)) { frames := 6, cells := 0, slots := 0, locals := 164 } (xsP X (wM X mThrown mWorld mImage mDraft mEarlier mRemembered mHasImage mIsLaid mOne mTwo mShare mX mY mD mEventX mEventY mEventD mEvents mCrossingOf mBundle mEventOf mDegree mFrom mTo mCrossings mEdges mMet mUpper mLower mTape mTaped mPoint mEnd mBegin mFaultAt mFive mTold mActs mFar mViews mHullX mHullY mEndX mEndY mHeightUp mHeightLow mMeets mMeetsOf Rw) [.ref (xsA X 100)]) (xsQi X out.1 (wM X mThrown mWorld mImage mDraft mEarlier mRemembered mHasImage out.2.1 out.2.2.1 out.2.2.2.1 out.2.2.2.2.1 out.2.2.2.2.2.1 out.2.2.2.2.2.2.1 out.2.2.2.2.2.2.2.1 out.2.2.2.2.2.2.2.2.1 out.2.2.2.2.2.2.2.2.2.1 out.2.2.2.2.2.2.2.2.2.2.1 out.2.2.2.2.2.2.2.2.2.2.2.1 out.2.2.2.2.2.2.2.2.2.2.2.2.1 out.2.2.2.2.2.2.2.2.2.2.2.2.2.1 out.2.2.2.2.2.2.2.2.2.2.2.2.2.2.1 out.2.2.2.2.2.2.2.2.2.2.2.2.2.2.2.1 out.2.2.2.2.2.2.2.2.2.2.2.2.2.2.2.2.1 out.2.2.2.2.2.2.2.2.2.2.2.2.2.2.2.2.2.1 out.2.2.2.2.2.2.2.2.2.2.2.2.2.2.2.2.2.2.1 out.2.2.2.2.2.2.2.2.2.2.2.2.2.2.2.2.2.2.2.1 out.2.2.2.2.2.2.2.2.2.2.2.2.2.2.2.2.2.2.2.2.1 out.2.2.2.2.2.2.2.2.2.2.2.2.2.2.2.2.2.2.2.2.2.1 out.2.2.2.2.2.2.2.2.2.2.2.2.2.2.2.2.2.2.2.2.2.2.1 mTape mTaped mPoint mEnd mBegin mFaultAt mFive mTold mActs mFar out.2.2.2.2.2.2.2.2.2.2.2.2.2.2.2.2.2.2.2.2.2.2.2 mHullX mHullY mEndX mEndY mHeightUp mHeightLow mMeets mMeetsOf Rw)) 0 0 (xsF X) := by
  refine xs_meth RX11 (by decide) rfl (Nat.le_of_ble_eq_true rfl) ?_
  intro p e s m below meth c ls H locs C hP hD hS hr hlk hl
  have hx := C.1
  have hb := C.2.1
  have hl : lv_has ls 5 [(0, .ref (xsA X 100))] := hl
  obtain ⟨Qq, hQq⟩ : ∃ Qq, Qq = xsQi X out.1 (wM X mThrown mWorld mImage mDraft mEarlier mRemembered mHasImage out.2.1 out.2.2.1 out.2.2.2.1 out.2.2.2.2.1 out.2.2.2.2.2.1 out.2.2.2.2.2.2.1 out.2.2.2.2.2.2.2.1 out.2.2.2.2.2.2.2.2.1 out.2.2.2.2.2.2.2.2.2.1 out.2.2.2.2.2.2.2.2.2.2.1 out.2.2.2.2.2.2.2.2.2.2.2.1 out.2.2.2.2.2.2.2.2.2.2.2.2.1 out.2.2.2.2.2.2.2.2.2.2.2.2.2.1 out.2.2.2.2.2.2.2.2.2.2.2.2.2.2.1 out.2.2.2.2.2.2.2.2.2.2.2.2.2.2.2.1 out.2.2.2.2.2.2.2.2.2.2.2.2.2.2.2.2.1 out.2.2.2.2.2.2.2.2.2.2.2.2.2.2.2.2.2.1 out.2.2.2.2.2.2.2.2.2.2.2.2.2.2.2.2.2.2.1 out.2.2.2.2.2.2.2.2.2.2.2.2.2.2.2.2.2.2.2.1 out.2.2.2.2.2.2.2.2.2.2.2.2.2.2.2.2.2.2.2.2.1 out.2.2.2.2.2.2.2.2.2.2.2.2.2.2.2.2.2.2.2.2.2.1 out.2.2.2.2.2.2.2.2.2.2.2.2.2.2.2.2.2.2.2.2.2.2.1 mTape mTaped mPoint mEnd mBegin mFaultAt mFive mTold mActs mFar out.2.2.2.2.2.2.2.2.2.2.2.2.2.2.2.2.2.2.2.2.2.2.2 mHullX mHullY mEndX mEndY mHeightUp mHeightLow mMeets mMeetsOf Rw) := ⟨_, rfl⟩
  rw [← hQq]
  unfold fX11_laysView at hf
  refine lv_aload_n hx hb dX11_laysView_0 rfl (lv_at hl 0 rfl) ?_
  replace hf := xsBd_use hf
  obtain ⟨o1, h2, hf⟩ := hf
  refine xs_callv hS (xs_runV (As := []) C (mX11_lays l  h2) w_1646 w_1648 w_56 w_115 w_1649 hd_X11_lays ⟨rfl, rfl, Nat.le_of_ble_eq_true rfl, Nat.le_of_ble_eq_true rfl, Nat.zero_le _, Nat.zero_le _⟩ hP hD hS lk_X11 rfl hl.1 rfl (Nat.le_of_ble_eq_true rfl) dX11_laysView_1) (fun H locs hP hD hS => ?_)
  refine lv_iconst (v := (0 : Int32)) hx hb dX11_laysView_4 (by decide) ?_
  refine lv_istore_n (lv' := [(1, .int (0 : Int32)), (0, .ref (xsA X 100))]) hx hb dX11_laysView_5 rfl hl (by decide) rfl (fun ls hl => ?_)
  refine lv_iconst (v := (0 : Int32)) hx hb dX11_laysView_6 (by decide) ?_
  refine lv_istore_n (lv' := [(2, .int (0 : Int32)), (1, .int (0 : Int32)), (0, .ref (xsA X 100))]) hx hb dX11_laysView_7 rfl hl (by decide) rfl (fun ls hl => ?_)
  have K9 : ∀ (y10 : Int32) (y11 : Nat → Int32) (y12 : Nat → Int64) (y13 : Nat → Int64) (y14 : Nat → Int32) (hf : fX11_laysView_J116 o1 y10 y11 y12 y13 y14 = some out) (H : Heap) (locs : List Loc) (ls : Array Slot), va_P (xsD X) vwCl (wM X mThrown mWorld mImage mDraft mEarlier mRemembered mHasImage o1.1 o1.2.1 o1.2.2.1 o1.2.2.2.1 o1.2.2.2.2.1 o1.2.2.2.2.2.1 o1.2.2.2.2.2.2.1 o1.2.2.2.2.2.2.2.1 o1.2.2.2.2.2.2.2.2.1 o1.2.2.2.2.2.2.2.2.2.1 o1.2.2.2.2.2.2.2.2.2.2.1 o1.2.2.2.2.2.2.2.2.2.2.2.1 o1.2.2.2.2.2.2.2.2.2.2.2.2.1 o1.2.2.2.2.2.2.2.2.2.2.2.2.2.1 o1.2.2.2.2.2.2.2.2.2.2.2.2.2.2.1 o1.2.2.2.2.2.2.2.2.2.2.2.2.2.2.2.1 o1.2.2.2.2.2.2.2.2.2.2.2.2.2.2.2.2.1 o1.2.2.2.2.2.2.2.2.2.2.2.2.2.2.2.2.2.1 o1.2.2.2.2.2.2.2.2.2.2.2.2.2.2.2.2.2.2 y11 y12 y13 mTape mTaped mPoint mEnd mBegin mFaultAt mFive mTold mActs mFar y14 mHullX mHullY mEndX mEndY mHeightUp mHeightLow mMeets mMeetsOf Rw) H → va_D (xsF X) (wM X mThrown mWorld mImage mDraft mEarlier mRemembered mHasImage o1.1 o1.2.1 o1.2.2.1 o1.2.2.2.1 o1.2.2.2.2.1 o1.2.2.2.2.2.1 o1.2.2.2.2.2.2.1 o1.2.2.2.2.2.2.2.1 o1.2.2.2.2.2.2.2.2.1 o1.2.2.2.2.2.2.2.2.2.1 o1.2.2.2.2.2.2.2.2.2.2.1 o1.2.2.2.2.2.2.2.2.2.2.2.1 o1.2.2.2.2.2.2.2.2.2.2.2.2.1 o1.2.2.2.2.2.2.2.2.2.2.2.2.2.1 o1.2.2.2.2.2.2.2.2.2.2.2.2.2.2.1 o1.2.2.2.2.2.2.2.2.2.2.2.2.2.2.2.1 o1.2.2.2.2.2.2.2.2.2.2.2.2.2.2.2.2.1 o1.2.2.2.2.2.2.2.2.2.2.2.2.2.2.2.2.2.1 o1.2.2.2.2.2.2.2.2.2.2.2.2.2.2.2.2.2.2 y11 y12 y13 mTape mTaped mPoint mEnd mBegin mFaultAt mFive mTold mActs mFar y14 mHullX mHullY mEndX mEndY mHeightUp mHeightLow mMeets mMeetsOf Rw) → va_S (xsF X) s.heap H locs → lv_has ls 5 [(1, .int y10)] → W p l e { frames := 6, cells := 0, slots := 0, locals := 164 } s m ([.ref (xsA X 100)] : List Value).toArray below meth c H locs 0 0 (MQ below Qq ([.ref (xsA X 100)] : List Value).toArray s 0 0 (xsF X)) (F0 m 116 ls []) := by
    intro y10 y11 y12 y13 y14 hf H locs ls hP hD hS hl
    unfold fX11_laysView_J116 at hf
    refine lv_iload_n hx hb dX11_laysView_116 rfl (lv_at hl 0 rfl) ?_
    have ho := Option.some.inj hf
    subst ho
    rw [hQq]
    exact xs_iret C hr hlk hP hD hS dX11_laysView_117
  replace hf := xsBd_use hf
  obtain ⟨r9, hk90, hf⟩ := hf
  have L9 : ∀ (sg : Int32 × Int32 × (Nat → Int32) × (Nat → Int64) × (Nat → Int64) × (Nat → Int32)) (rg : Int32 × (Nat → Int32) × (Nat → Int64) × (Nat → Int64) × (Nat → Int32)), xsWh (fun s9 => fX11_laysView_L8 mWorld o1 s9.1 s9.2.1 s9.2.2.1 s9.2.2.2.1 s9.2.2.2.2.1 s9.2.2.2.2.2) sg = some rg → (fX11_laysView_J116 o1 rg.1 rg.2.1 rg.2.2.1 rg.2.2.2.1 rg.2.2.2.2 = some out → ∀ (H : Heap) (locs : List Loc) (ls : Array Slot), va_P (xsD X) vwCl (wM X mThrown mWorld mImage mDraft mEarlier mRemembered mHasImage o1.1 o1.2.1 o1.2.2.1 o1.2.2.2.1 o1.2.2.2.2.1 o1.2.2.2.2.2.1 o1.2.2.2.2.2.2.1 o1.2.2.2.2.2.2.2.1 o1.2.2.2.2.2.2.2.2.1 o1.2.2.2.2.2.2.2.2.2.1 o1.2.2.2.2.2.2.2.2.2.2.1 o1.2.2.2.2.2.2.2.2.2.2.2.1 o1.2.2.2.2.2.2.2.2.2.2.2.2.1 o1.2.2.2.2.2.2.2.2.2.2.2.2.2.1 o1.2.2.2.2.2.2.2.2.2.2.2.2.2.2.1 o1.2.2.2.2.2.2.2.2.2.2.2.2.2.2.2.1 o1.2.2.2.2.2.2.2.2.2.2.2.2.2.2.2.2.1 o1.2.2.2.2.2.2.2.2.2.2.2.2.2.2.2.2.2.1 o1.2.2.2.2.2.2.2.2.2.2.2.2.2.2.2.2.2.2 sg.2.2.1 sg.2.2.2.1 sg.2.2.2.2.1 mTape mTaped mPoint mEnd mBegin mFaultAt mFive mTold mActs mFar sg.2.2.2.2.2 mHullX mHullY mEndX mEndY mHeightUp mHeightLow mMeets mMeetsOf Rw) H → va_D (xsF X) (wM X mThrown mWorld mImage mDraft mEarlier mRemembered mHasImage o1.1 o1.2.1 o1.2.2.1 o1.2.2.2.1 o1.2.2.2.2.1 o1.2.2.2.2.2.1 o1.2.2.2.2.2.2.1 o1.2.2.2.2.2.2.2.1 o1.2.2.2.2.2.2.2.2.1 o1.2.2.2.2.2.2.2.2.2.1 o1.2.2.2.2.2.2.2.2.2.2.1 o1.2.2.2.2.2.2.2.2.2.2.2.1 o1.2.2.2.2.2.2.2.2.2.2.2.2.1 o1.2.2.2.2.2.2.2.2.2.2.2.2.2.1 o1.2.2.2.2.2.2.2.2.2.2.2.2.2.2.1 o1.2.2.2.2.2.2.2.2.2.2.2.2.2.2.2.1 o1.2.2.2.2.2.2.2.2.2.2.2.2.2.2.2.2.1 o1.2.2.2.2.2.2.2.2.2.2.2.2.2.2.2.2.2.1 o1.2.2.2.2.2.2.2.2.2.2.2.2.2.2.2.2.2.2 sg.2.2.1 sg.2.2.2.1 sg.2.2.2.2.1 mTape mTaped mPoint mEnd mBegin mFaultAt mFive mTold mActs mFar sg.2.2.2.2.2 mHullX mHullY mEndX mEndY mHeightUp mHeightLow mMeets mMeetsOf Rw) → va_S (xsF X) s.heap H locs → lv_has ls 5 [(0, .ref (xsA X 100)), (1, .int sg.1), (2, .int sg.2.1)] → W p l e { frames := 6, cells := 0, slots := 0, locals := 164 } s m ([.ref (xsA X 100)] : List Value).toArray below meth c H locs 0 0 (MQ below Qq ([.ref (xsA X 100)] : List Value).toArray s 0 0 (xsF X)) (F0 m 8 ls [])) := by
    refine xsWh_ind ?_
    intro sg r9 u9 hf ih9 hx9 hk9 H locs ls hP hD hS hl
    obtain ⟨y3, y4, y5, y6, y7, y8⟩ := sg
    replace hf : fX11_laysView_L8 mWorld o1 y3 y4 y5 y6 y7 y8 = some u9 := hf
    replace hl : lv_has ls 5 [(0, .ref (xsA X 100)), (1, .int y3), (2, .int y4)] := hl
    replace hP : va_P (xsD X) vwCl (wM X mThrown mWorld mImage mDraft mEarlier mRemembered mHasImage o1.1 o1.2.1 o1.2.2.1 o1.2.2.2.1 o1.2.2.2.2.1 o1.2.2.2.2.2.1 o1.2.2.2.2.2.2.1 o1.2.2.2.2.2.2.2.1 o1.2.2.2.2.2.2.2.2.1 o1.2.2.2.2.2.2.2.2.2.1 o1.2.2.2.2.2.2.2.2.2.2.1 o1.2.2.2.2.2.2.2.2.2.2.2.1 o1.2.2.2.2.2.2.2.2.2.2.2.2.1 o1.2.2.2.2.2.2.2.2.2.2.2.2.2.1 o1.2.2.2.2.2.2.2.2.2.2.2.2.2.2.1 o1.2.2.2.2.2.2.2.2.2.2.2.2.2.2.2.1 o1.2.2.2.2.2.2.2.2.2.2.2.2.2.2.2.2.1 o1.2.2.2.2.2.2.2.2.2.2.2.2.2.2.2.2.2.1 o1.2.2.2.2.2.2.2.2.2.2.2.2.2.2.2.2.2.2 y5 y6 y7 mTape mTaped mPoint mEnd mBegin mFaultAt mFive mTold mActs mFar y8 mHullX mHullY mEndX mEndY mHeightUp mHeightLow mMeets mMeetsOf Rw) H := hP
    replace hD : va_D (xsF X) (wM X mThrown mWorld mImage mDraft mEarlier mRemembered mHasImage o1.1 o1.2.1 o1.2.2.1 o1.2.2.2.1 o1.2.2.2.2.1 o1.2.2.2.2.2.1 o1.2.2.2.2.2.2.1 o1.2.2.2.2.2.2.2.1 o1.2.2.2.2.2.2.2.2.1 o1.2.2.2.2.2.2.2.2.2.1 o1.2.2.2.2.2.2.2.2.2.2.1 o1.2.2.2.2.2.2.2.2.2.2.2.1 o1.2.2.2.2.2.2.2.2.2.2.2.2.1 o1.2.2.2.2.2.2.2.2.2.2.2.2.2.1 o1.2.2.2.2.2.2.2.2.2.2.2.2.2.2.1 o1.2.2.2.2.2.2.2.2.2.2.2.2.2.2.2.1 o1.2.2.2.2.2.2.2.2.2.2.2.2.2.2.2.2.1 o1.2.2.2.2.2.2.2.2.2.2.2.2.2.2.2.2.2.1 o1.2.2.2.2.2.2.2.2.2.2.2.2.2.2.2.2.2.2 y5 y6 y7 mTape mTaped mPoint mEnd mBegin mFaultAt mFive mTold mActs mFar y8 mHullX mHullY mEndX mEndY mHeightUp mHeightLow mMeets mMeetsOf Rw) := hD
    unfold fX11_laysView_L8 at hf
    refine lv_iload_n hx hb dX11_laysView_8 rfl (lv_at hl 2 rfl) ?_
    refine lv_iconst (v := (1 : Int32)) hx hb dX11_laysView_9 (by decide) ?_
    refine lv_iadd hx hb dX11_laysView_10 ?_
    refine lv_aload_n hx hb dX11_laysView_11 rfl (lv_at hl 0 rfl) ?_
    refine xg_X11_193 C hP dX11_laysView_12 ?_
    refine lv_icmp_ge (tgt := 116) hx hb dX11_laysView_15 (by decide) (fun c44 => ?_) (fun c44 => ?_)
    · replace hf := xsBr_t c44 hf
      have ez := hx9 _ (Option.some.inj hf).symm
      subst ez
      exact K9 y3 y5 y6 y7 y8 hk9 H locs ls hP hD hS (lv_sub hl [1] rfl)
    · replace hf := xsBr_f c44 hf
      refine lv_aload_n hx hb dX11_laysView_18 rfl (lv_at hl 0 rfl) ?_
      refine xg_X11_35 C hP dX11_laysView_19 ?_
      refine lv_iload_n hx hb dX11_laysView_22 rfl (lv_at hl 2 rfl) ?_
      replace hf := xsCk_use hf
      obtain ⟨h15, hf⟩ := hf
      refine xl_mEventX C hP h15 dX11_laysView_23 ?_
      refine lv_aload_n hx hb dX11_laysView_24 rfl (lv_at hl 0 rfl) ?_
      refine xg_X11_42 C hP dX11_laysView_25 ?_
      refine lv_iload_n hx hb dX11_laysView_28 rfl (lv_at hl 2 rfl) ?_
      refine lv_iconst (v := (1 : Int32)) hx hb dX11_laysView_29 (by decide) ?_
      refine lv_iadd hx hb dX11_laysView_30 ?_
      replace hf := xsCk_use hf
      obtain ⟨h16, hf⟩ := hf
      refine xl_mEventD C hP h16 dX11_laysView_31 ?_
      refine lv_lmul hx hb dX11_laysView_32 ?_
      refine lv_aload_n hx hb dX11_laysView_33 rfl (lv_at hl 0 rfl) ?_
      refine xg_X11_35 C hP dX11_laysView_34 ?_
      refine lv_iload_n hx hb dX11_laysView_37 rfl (lv_at hl 2 rfl) ?_
      refine lv_iconst (v := (1 : Int32)) hx hb dX11_laysView_38 (by decide) ?_
      refine lv_iadd hx hb dX11_laysView_39 ?_
      replace hf := xsCk_use hf
      obtain ⟨h17, hf⟩ := hf
      refine xl_mEventX C hP h17 dX11_laysView_40 ?_
      refine lv_aload_n hx hb dX11_laysView_41 rfl (lv_at hl 0 rfl) ?_
      refine xg_X11_42 C hP dX11_laysView_42 ?_
      refine lv_iload_n hx hb dX11_laysView_45 rfl (lv_at hl 2 rfl) ?_
      replace hf := xsCk_use hf
      obtain ⟨h18, hf⟩ := hf
      refine xl_mEventD C hP h18 dX11_laysView_46 ?_
      refine lv_lmul hx hb dX11_laysView_47 ?_
      have K27 : ∀ (y19 : Int32) (y20 : Nat → Int32) (y21 : Nat → Int64) (y22 : Nat → Int64) (y23 : Nat → Int32) (hf : fX11_laysView_J110 y4 y19 y20 y21 y22 y23 = some u9) (H : Heap) (locs : List Loc) (ls : Array Slot), va_P (xsD X) vwCl (wM X mThrown mWorld mImage mDraft mEarlier mRemembered mHasImage o1.1 o1.2.1 o1.2.2.1 o1.2.2.2.1 o1.2.2.2.2.1 o1.2.2.2.2.2.1 o1.2.2.2.2.2.2.1 o1.2.2.2.2.2.2.2.1 o1.2.2.2.2.2.2.2.2.1 o1.2.2.2.2.2.2.2.2.2.1 o1.2.2.2.2.2.2.2.2.2.2.1 o1.2.2.2.2.2.2.2.2.2.2.2.1 o1.2.2.2.2.2.2.2.2.2.2.2.2.1 o1.2.2.2.2.2.2.2.2.2.2.2.2.2.1 o1.2.2.2.2.2.2.2.2.2.2.2.2.2.2.1 o1.2.2.2.2.2.2.2.2.2.2.2.2.2.2.2.1 o1.2.2.2.2.2.2.2.2.2.2.2.2.2.2.2.2.1 o1.2.2.2.2.2.2.2.2.2.2.2.2.2.2.2.2.2.1 o1.2.2.2.2.2.2.2.2.2.2.2.2.2.2.2.2.2.2 y20 y21 y22 mTape mTaped mPoint mEnd mBegin mFaultAt mFive mTold mActs mFar y23 mHullX mHullY mEndX mEndY mHeightUp mHeightLow mMeets mMeetsOf Rw) H → va_D (xsF X) (wM X mThrown mWorld mImage mDraft mEarlier mRemembered mHasImage o1.1 o1.2.1 o1.2.2.1 o1.2.2.2.1 o1.2.2.2.2.1 o1.2.2.2.2.2.1 o1.2.2.2.2.2.2.1 o1.2.2.2.2.2.2.2.1 o1.2.2.2.2.2.2.2.2.1 o1.2.2.2.2.2.2.2.2.2.1 o1.2.2.2.2.2.2.2.2.2.2.1 o1.2.2.2.2.2.2.2.2.2.2.2.1 o1.2.2.2.2.2.2.2.2.2.2.2.2.1 o1.2.2.2.2.2.2.2.2.2.2.2.2.2.1 o1.2.2.2.2.2.2.2.2.2.2.2.2.2.2.1 o1.2.2.2.2.2.2.2.2.2.2.2.2.2.2.2.1 o1.2.2.2.2.2.2.2.2.2.2.2.2.2.2.2.2.1 o1.2.2.2.2.2.2.2.2.2.2.2.2.2.2.2.2.2.1 o1.2.2.2.2.2.2.2.2.2.2.2.2.2.2.2.2.2.2 y20 y21 y22 mTape mTaped mPoint mEnd mBegin mFaultAt mFive mTold mActs mFar y23 mHullX mHullY mEndX mEndY mHeightUp mHeightLow mMeets mMeetsOf Rw) → va_S (xsF X) s.heap H locs → lv_has ls 5 [(0, .ref (xsA X 100)), (1, .int y19), (2, .int y4)] → W p l e { frames := 6, cells := 0, slots := 0, locals := 164 } s m ([.ref (xsA X 100)] : List Value).toArray below meth c H locs 0 0 (MQ below Qq ([.ref (xsA X 100)] : List Value).toArray s 0 0 (xsF X)) (F0 m 110 ls []) := by
        intro y19 y20 y21 y22 y23 hf H locs ls hP hD hS hl
        unfold fX11_laysView_J110 at hf
        obtain ⟨x24, ex24⟩ : ∃ y : Int32, y = y4 + (1 : Int32) := ⟨_, rfl⟩
        replace hf := xsLt_use ex24 hf
        refine lv_iinc (v := x24) (lv' := [(2, .int x24), (0, .ref (xsA X 100)), (1, .int y19)]) hx hb dX11_laysView_110 hl (k := 2) rfl (by rw [ex24]; rfl) (by decide) rfl (fun ls hl => ?_)
        refine lv_goto (tgt := 8) hx hb dX11_laysView_113 (by decide) ?_
        exact ih9 _ (Option.some.inj hf).symm hk9 H locs ls hP hD hS (lv_sub hl [1, 2, 0] rfl)
      replace hf := xsBd_use hf
      obtain ⟨v25, hf, hk26⟩ := hf
      refine xs_lcmp_ne (tgt := 55) C dX11_laysView_48 dX11_laysView_49 (by decide) (fun c43 => ?_) (fun c43 => ?_)
      · replace hf := xsBr_f c43 hf
        refine lv_aload_n hx hb dX11_laysView_55 rfl (lv_at hl 0 rfl) ?_
        refine lv_iload_n hx hb dX11_laysView_56 rfl (lv_at hl 2 rfl) ?_
        replace hf := xsBd_use hf
        obtain ⟨o28, h29, hf⟩ := hf
        refine xs_calli hS (xs_runV (As := [.int y4]) C (mX11_laysStatus l  h29) w_1823 w_1825 w_82 w_115 w_1826 hd_X11_laysStatus ⟨rfl, rfl, Nat.le_of_ble_eq_true rfl, Nat.le_of_ble_eq_true rfl, Nat.zero_le _, Nat.zero_le _⟩ hP hD hS lk_X11 rfl hl.1 rfl (Nat.le_of_ble_eq_true rfl) dX11_laysView_57) (fun H locs hP hD hS => ?_)
        refine lv_istore_n (lv' := [(3, .int o28.1), (0, .ref (xsA X 100)), (1, .int y3), (2, .int y4)]) hx hb dX11_laysView_60 rfl hl (by decide) rfl (fun ls hl => ?_)
        refine lv_iload_n hx hb dX11_laysView_61 rfl (lv_at hl 0 rfl) ?_
        have K40 : ∀ (y30 : Int32) (hf : fX11_laysView_J77 y3 y8 o28 y30 = some v25) (H : Heap) (locs : List Loc) (ls : Array Slot), va_P (xsD X) vwCl (wM X mThrown mWorld mImage mDraft mEarlier mRemembered mHasImage o1.1 o1.2.1 o1.2.2.1 o1.2.2.2.1 o1.2.2.2.2.1 o1.2.2.2.2.2.1 o1.2.2.2.2.2.2.1 o1.2.2.2.2.2.2.2.1 o1.2.2.2.2.2.2.2.2.1 o1.2.2.2.2.2.2.2.2.2.1 o1.2.2.2.2.2.2.2.2.2.2.1 o1.2.2.2.2.2.2.2.2.2.2.2.1 o1.2.2.2.2.2.2.2.2.2.2.2.2.1 o1.2.2.2.2.2.2.2.2.2.2.2.2.2.1 o1.2.2.2.2.2.2.2.2.2.2.2.2.2.2.1 o1.2.2.2.2.2.2.2.2.2.2.2.2.2.2.2.1 o1.2.2.2.2.2.2.2.2.2.2.2.2.2.2.2.2.1 o1.2.2.2.2.2.2.2.2.2.2.2.2.2.2.2.2.2.1 o1.2.2.2.2.2.2.2.2.2.2.2.2.2.2.2.2.2.2 o28.2.1 o28.2.2.1 o28.2.2.2 mTape mTaped mPoint mEnd mBegin mFaultAt mFive mTold mActs mFar y8 mHullX mHullY mEndX mEndY mHeightUp mHeightLow mMeets mMeetsOf Rw) H → va_D (xsF X) (wM X mThrown mWorld mImage mDraft mEarlier mRemembered mHasImage o1.1 o1.2.1 o1.2.2.1 o1.2.2.2.1 o1.2.2.2.2.1 o1.2.2.2.2.2.1 o1.2.2.2.2.2.2.1 o1.2.2.2.2.2.2.2.1 o1.2.2.2.2.2.2.2.2.1 o1.2.2.2.2.2.2.2.2.2.1 o1.2.2.2.2.2.2.2.2.2.2.1 o1.2.2.2.2.2.2.2.2.2.2.2.1 o1.2.2.2.2.2.2.2.2.2.2.2.2.1 o1.2.2.2.2.2.2.2.2.2.2.2.2.2.1 o1.2.2.2.2.2.2.2.2.2.2.2.2.2.2.1 o1.2.2.2.2.2.2.2.2.2.2.2.2.2.2.2.1 o1.2.2.2.2.2.2.2.2.2.2.2.2.2.2.2.2.1 o1.2.2.2.2.2.2.2.2.2.2.2.2.2.2.2.2.2.1 o1.2.2.2.2.2.2.2.2.2.2.2.2.2.2.2.2.2.2 o28.2.1 o28.2.2.1 o28.2.2.2 mTape mTaped mPoint mEnd mBegin mFaultAt mFive mTold mActs mFar y8 mHullX mHullY mEndX mEndY mHeightUp mHeightLow mMeets mMeetsOf Rw) → va_S (xsF X) s.heap H locs → lv_has ls 5 [(0, .ref (xsA X 100)), (1, .int y3), (2, .int y4)] → W p l e { frames := 6, cells := 0, slots := 0, locals := 164 } s m ([.ref (xsA X 100)] : List Value).toArray below meth c H locs 0 0 (MQ below Qq ([.ref (xsA X 100)] : List Value).toArray s 0 0 (xsF X)) (F0 m 77 ls [.int y30]) := by
          intro y30 hf H locs ls hP hD hS hl
          unfold fX11_laysView_J77 at hf
          refine lv_istore (lv' := [(4, .int y30), (0, .ref (xsA X 100)), (1, .int y3), (2, .int y4)]) hx hb dX11_laysView_77 hl (by decide) rfl (fun ls hl => ?_)
          refine lv_iload_n hx hb dX11_laysView_79 rfl (lv_at hl 2 rfl) ?_
          have K34 : ∀ (hf : fX11_laysView_J99 y3 y8 o28 y30 = some v25) (H : Heap) (locs : List Loc) (ls : Array Slot), va_P (xsD X) vwCl (wM X mThrown mWorld mImage mDraft mEarlier mRemembered mHasImage o1.1 o1.2.1 o1.2.2.1 o1.2.2.2.1 o1.2.2.2.2.1 o1.2.2.2.2.2.1 o1.2.2.2.2.2.2.1 o1.2.2.2.2.2.2.2.1 o1.2.2.2.2.2.2.2.2.1 o1.2.2.2.2.2.2.2.2.2.1 o1.2.2.2.2.2.2.2.2.2.2.1 o1.2.2.2.2.2.2.2.2.2.2.2.1 o1.2.2.2.2.2.2.2.2.2.2.2.2.1 o1.2.2.2.2.2.2.2.2.2.2.2.2.2.1 o1.2.2.2.2.2.2.2.2.2.2.2.2.2.2.1 o1.2.2.2.2.2.2.2.2.2.2.2.2.2.2.2.1 o1.2.2.2.2.2.2.2.2.2.2.2.2.2.2.2.2.1 o1.2.2.2.2.2.2.2.2.2.2.2.2.2.2.2.2.2.1 o1.2.2.2.2.2.2.2.2.2.2.2.2.2.2.2.2.2.2 o28.2.1 o28.2.2.1 o28.2.2.2 mTape mTaped mPoint mEnd mBegin mFaultAt mFive mTold mActs mFar y8 mHullX mHullY mEndX mEndY mHeightUp mHeightLow mMeets mMeetsOf Rw) H → va_D (xsF X) (wM X mThrown mWorld mImage mDraft mEarlier mRemembered mHasImage o1.1 o1.2.1 o1.2.2.1 o1.2.2.2.1 o1.2.2.2.2.1 o1.2.2.2.2.2.1 o1.2.2.2.2.2.2.1 o1.2.2.2.2.2.2.2.1 o1.2.2.2.2.2.2.2.2.1 o1.2.2.2.2.2.2.2.2.2.1 o1.2.2.2.2.2.2.2.2.2.2.1 o1.2.2.2.2.2.2.2.2.2.2.2.1 o1.2.2.2.2.2.2.2.2.2.2.2.2.1 o1.2.2.2.2.2.2.2.2.2.2.2.2.2.1 o1.2.2.2.2.2.2.2.2.2.2.2.2.2.2.1 o1.2.2.2.2.2.2.2.2.2.2.2.2.2.2.2.1 o1.2.2.2.2.2.2.2.2.2.2.2.2.2.2.2.2.1 o1.2.2.2.2.2.2.2.2.2.2.2.2.2.2.2.2.2.1 o1.2.2.2.2.2.2.2.2.2.2.2.2.2.2.2.2.2.2 o28.2.1 o28.2.2.1 o28.2.2.2 mTape mTaped mPoint mEnd mBegin mFaultAt mFive mTold mActs mFar y8 mHullX mHullY mEndX mEndY mHeightUp mHeightLow mMeets mMeetsOf Rw) → va_S (xsF X) s.heap H locs → lv_has ls 5 [(0, .ref (xsA X 100)), (1, .int y3), (2, .int y4), (4, .int y30)] → W p l e { frames := 6, cells := 0, slots := 0, locals := 164 } s m ([.ref (xsA X 100)] : List Value).toArray below meth c H locs 0 0 (MQ below Qq ([.ref (xsA X 100)] : List Value).toArray s 0 0 (xsF X)) (F0 m 99 ls []) := by
            intro hf H locs ls hP hD hS hl
            unfold fX11_laysView_J99 at hf
            refine lv_aload_n hx hb dX11_laysView_99 rfl (lv_at hl 0 rfl) ?_
            refine xg_X11_88 C hP dX11_laysView_100 ?_
            refine lv_iload_n hx hb dX11_laysView_103 rfl (lv_at hl 1 rfl) ?_
            refine lv_iload hx hb dX11_laysView_104 (lv_at hl 3 rfl) ?_
            replace hf := xsCk_use hf
            obtain ⟨h31, hf⟩ := hf
            refine xs_mViews C hP hD hS h31 dX11_laysView_106 (fun f32 ef32 H locs hP hD hS => ?_)
            replace hf := xsLt_use ef32 hf
            obtain ⟨x33, ex33⟩ : ∃ y : Int32, y = y3 + (1 : Int32) := ⟨_, rfl⟩
            replace hf := xsLt_use ex33 hf
            refine lv_iinc (v := x33) (lv' := [(1, .int x33), (0, .ref (xsA X 100)), (2, .int y4), (4, .int y30)]) hx hb dX11_laysView_107 hl (k := 1) rfl (by rw [ex33]; rfl) (by decide) rfl (fun ls hl => ?_)
            have ev := Option.some.inj hf
            subst ev
            exact K27 x33 o28.2.1 o28.2.2.1 o28.2.2.2 f32 hk26 H locs ls hP hD hS (lv_sub hl [1, 0, 2] rfl)
          refine lv_if_le (tgt := 99) hx hb dX11_laysView_80 (by decide) (fun c37 => ?_) (fun c37 => ?_)
          · replace hf := xsBr_t c37 hf
            exact K34 hf H locs ls hP hD hS (lv_sub hl [1, 2, 3, 0] rfl)
          · replace hf := xsBr_f c37 hf
            refine lv_aload_n hx hb dX11_laysView_83 rfl (lv_at hl 1 rfl) ?_
            refine xg_X11_88 C hP dX11_laysView_84 ?_
            refine lv_iload_n hx hb dX11_laysView_87 rfl (lv_at hl 2 rfl) ?_
            refine lv_iconst (v := (1 : Int32)) hx hb dX11_laysView_88 (by decide) ?_
            refine lv_isub hx hb dX11_laysView_89 ?_
            replace hf := xsCk_use hf
            obtain ⟨h35, hf⟩ := hf
            refine xl_mViews C hP h35 dX11_laysView_90 ?_
            refine lv_iload hx hb dX11_laysView_91 (lv_at hl 0 rfl) ?_
            refine lv_icmp_ne (tgt := 99) hx hb dX11_laysView_93 (by decide) (fun c36 => ?_) (fun c36 => ?_)
            · replace hf := xsBr_f c36 hf
              exact K34 hf H locs ls hP hD hS (lv_sub hl [1, 2, 3, 0] rfl)
            · replace hf := xsBr_t c36 hf
              refine lv_goto (tgt := 110) hx hb dX11_laysView_96 (by decide) ?_
              have ev := Option.some.inj hf
              subst ev
              exact K27 y3 o28.2.1 o28.2.2.1 o28.2.2.2 y8 hk26 H locs ls hP hD hS (lv_sub hl [1, 2, 3] rfl)
        replace hf := xsBd_use hf
        obtain ⟨v38, hf, hk39⟩ := hf
        refine lv_if_ne (tgt := 69) hx hb dX11_laysView_62 (by decide) (fun c42 => ?_) (fun c42 => ?_)
        · replace hf := xsBr_f c42 hf
          refine lv_aload_n hx hb dX11_laysView_69 rfl (lv_at hl 1 rfl) ?_
          refine xg_X11_63 C hP dX11_laysView_70 ?_
          refine lv_iload_n hx hb dX11_laysView_73 rfl (lv_at hl 0 rfl) ?_
          refine lv_iconst (v := (1 : Int32)) hx hb dX11_laysView_74 (by decide) ?_
          refine lv_isub hx hb dX11_laysView_75 ?_
          replace hf := xsCk_use hf
          obtain ⟨h41, hf⟩ := hf
          refine xl_mMet C hP h41 dX11_laysView_76 ?_
          have ev := Option.some.inj hf
          subst ev
          exact K40 (o28.2.1 (o28.1 - (1 : Int32)).toNatClampNeg) hk39 H locs ls hP hD hS (lv_sub hl [1, 2, 3] rfl)
        · replace hf := xsBr_t c42 hf
          refine lv_iconst (v := (-1 : Int32)) hx hb dX11_laysView_65 (by decide) ?_
          refine lv_goto (tgt := 77) hx hb dX11_laysView_66 (by decide) ?_
          have ev := Option.some.inj hf
          subst ev
          exact K40 (-1 : Int32) hk39 H locs ls hP hD hS (lv_sub hl [1, 2, 3] rfl)
      · replace hf := xsBr_t c43 hf
        refine lv_goto (tgt := 110) hx hb dX11_laysView_52 (by decide) ?_
        have ev := Option.some.inj hf
        subst ev
        exact K27 y3 y5 y6 y7 y8 hk26 H locs ls hP hD hS (lv_sub hl [0, 1, 2] rfl)
  exact L9 ((0 : Int32), (0 : Int32), mMet, mUpper, mLower, mViews) r9 hk90 hf H locs ls hP hD hS (lv_sub hl [2, 1, 0] rfl)
set_option maxRecDepth 100000 in
set_option maxHeartbeats 8000000 in
theorem mX11_view (l : Launch) {X : xsX} {mThrown mRemembered mHasImage mIsLaid mEvents mCrossings mEdges mTaped mPoint mEnd mBegin mFaultAt mActs : Int32} {mWorld mImage mDraft mEarlier mOne mTwo mShare mCrossingOf mBundle mEventOf mDegree mFrom mTo mMet mTape mFive mTold mFar mViews mHullX mHullY mEndX mEndY mMeets mMeetsOf : Nat → Int32} {mX mY mD mHeightUp mHeightLow : Int64} {mEventX mEventY mEventD mUpper mLower : Nat → Int64} {Rw : va_W} {a0 : Int32} {out : Int32 × Int32 × Int32 × (Nat → Int32) × (Nat → Int32) × (Nat → Int32) × Int64 × Int64 × Int64 × (Nat → Int64) × (Nat → Int64) × (Nat → Int64) × Int32 × (Nat → Int32) × (Nat → Int32) × (Nat → Int32) × (Nat → Int32) × (Nat → Int32) × (Nat → Int32) × Int32 × Int32 × (Nat → Int32) × (Nat → Int64) × (Nat → Int64) × (Nat → Int32)} (hf : fX11_view mThrown mWorld mIsLaid mOne mTwo mShare mX mY mD mEventX mEventY mEventD mEvents mCrossingOf mBundle mEventOf mDegree mFrom mTo mCrossings mEdges mMet mUpper mLower mViews a0 = some out) : Met l yX11_view (xsWs yX11_view cX11_view 3 (some .int)) { frames := 7, cells := 0, slots := 0, locals := 188 } (xsP X (wM X mThrown mWorld mImage mDraft mEarlier mRemembered mHasImage mIsLaid mOne mTwo mShare mX mY mD mEventX mEventY mEventD mEvents mCrossingOf mBundle mEventOf mDegree mFrom mTo mCrossings mEdges mMet mUpper mLower mTape mTaped mPoint mEnd mBegin mFaultAt mFive mTold mActs mFar mViews mHullX mHullY mEndX mEndY mHeightUp mHeightLow mMeets mMeetsOf Rw) [.ref (xsA X 100), .int a0]) (xsQi X out.1 (wM X out.2.1 mWorld mImage mDraft mEarlier mRemembered mHasImage out.2.2.1 out.2.2.2.1 out.2.2.2.2.1 out.2.2.2.2.2.1 out.2.2.2.2.2.2.1 out.2.2.2.2.2.2.2.1 out.2.2.2.2.2.2.2.2.1 out.2.2.2.2.2.2.2.2.2.1 out.2.2.2.2.2.2.2.2.2.2.1 out.2.2.2.2.2.2.2.2.2.2.2.1 out.2.2.2.2.2.2.2.2.2.2.2.2.1 out.2.2.2.2.2.2.2.2.2.2.2.2.2.1 out.2.2.2.2.2.2.2.2.2.2.2.2.2.2.1 out.2.2.2.2.2.2.2.2.2.2.2.2.2.2.2.1 out.2.2.2.2.2.2.2.2.2.2.2.2.2.2.2.2.1 out.2.2.2.2.2.2.2.2.2.2.2.2.2.2.2.2.2.1 out.2.2.2.2.2.2.2.2.2.2.2.2.2.2.2.2.2.2.1 out.2.2.2.2.2.2.2.2.2.2.2.2.2.2.2.2.2.2.2.1 out.2.2.2.2.2.2.2.2.2.2.2.2.2.2.2.2.2.2.2.2.1 out.2.2.2.2.2.2.2.2.2.2.2.2.2.2.2.2.2.2.2.2.2.1 out.2.2.2.2.2.2.2.2.2.2.2.2.2.2.2.2.2.2.2.2.2.2.1 out.2.2.2.2.2.2.2.2.2.2.2.2.2.2.2.2.2.2.2.2.2.2.2.1 mTape mTaped mPoint mEnd mBegin mFaultAt mFive mTold mActs mFar out.2.2.2.2.2.2.2.2.2.2.2.2.2.2.2.2.2.2.2.2.2.2.2.2 mHullX mHullY mEndX mEndY mHeightUp mHeightLow mMeets mMeetsOf Rw)) 0 0 (xsF X) := by
  refine xs_meth RX11 (by decide) rfl (Nat.le_of_ble_eq_true rfl) ?_
  intro p e s m below meth c ls H locs C hP hD hS hr hlk hl
  have hx := C.1
  have hb := C.2.1
  have hl : lv_has ls 3 [(0, .ref (xsA X 100)), (1, .int a0)] := hl
  obtain ⟨Qq, hQq⟩ : ∃ Qq, Qq = xsQi X out.1 (wM X out.2.1 mWorld mImage mDraft mEarlier mRemembered mHasImage out.2.2.1 out.2.2.2.1 out.2.2.2.2.1 out.2.2.2.2.2.1 out.2.2.2.2.2.2.1 out.2.2.2.2.2.2.2.1 out.2.2.2.2.2.2.2.2.1 out.2.2.2.2.2.2.2.2.2.1 out.2.2.2.2.2.2.2.2.2.2.1 out.2.2.2.2.2.2.2.2.2.2.2.1 out.2.2.2.2.2.2.2.2.2.2.2.2.1 out.2.2.2.2.2.2.2.2.2.2.2.2.2.1 out.2.2.2.2.2.2.2.2.2.2.2.2.2.2.1 out.2.2.2.2.2.2.2.2.2.2.2.2.2.2.2.1 out.2.2.2.2.2.2.2.2.2.2.2.2.2.2.2.2.1 out.2.2.2.2.2.2.2.2.2.2.2.2.2.2.2.2.2.1 out.2.2.2.2.2.2.2.2.2.2.2.2.2.2.2.2.2.2.1 out.2.2.2.2.2.2.2.2.2.2.2.2.2.2.2.2.2.2.2.1 out.2.2.2.2.2.2.2.2.2.2.2.2.2.2.2.2.2.2.2.2.1 out.2.2.2.2.2.2.2.2.2.2.2.2.2.2.2.2.2.2.2.2.2.1 out.2.2.2.2.2.2.2.2.2.2.2.2.2.2.2.2.2.2.2.2.2.2.1 out.2.2.2.2.2.2.2.2.2.2.2.2.2.2.2.2.2.2.2.2.2.2.2.1 mTape mTaped mPoint mEnd mBegin mFaultAt mFive mTold mActs mFar out.2.2.2.2.2.2.2.2.2.2.2.2.2.2.2.2.2.2.2.2.2.2.2.2 mHullX mHullY mEndX mEndY mHeightUp mHeightLow mMeets mMeetsOf Rw) := ⟨_, rfl⟩
  rw [← hQq]
  unfold fX11_view at hf
  refine lv_aload_n hx hb dX11_view_0 rfl (lv_at hl 0 rfl) ?_
  refine lv_iconst (v := (0 : Int32)) hx hb dX11_view_1 (by decide) ?_
  refine xp_X11_3 C hP hD hS dX11_view_2 (fun H locs hP hD hS => ?_)
  refine lv_aload_n hx hb dX11_view_5 rfl (lv_at hl 0 rfl) ?_
  replace hf := xsBd_use hf
  obtain ⟨o1, h2, hf⟩ := hf
  refine xs_calli hS (xs_runV (As := []) C (mX11_laysView l  h2) w_1855 w_1857 w_87 w_115 w_1858 hd_X11_laysView ⟨rfl, rfl, Nat.le_of_ble_eq_true rfl, Nat.le_of_ble_eq_true rfl, Nat.zero_le _, Nat.zero_le _⟩ hP hD hS lk_X11 rfl hl.1 rfl (Nat.le_of_ble_eq_true rfl) dX11_view_6) (fun H locs hP hD hS => ?_)
  refine lv_istore_n (lv' := [(2, .int o1.1), (0, .ref (xsA X 100)), (1, .int a0)]) hx hb dX11_view_9 rfl hl (by decide) rfl (fun ls hl => ?_)
  refine lv_iload_n hx hb dX11_view_10 rfl (lv_at hl 2 rfl) ?_
  refine lv_iconst (v := (-1 : Int32)) hx hb dX11_view_11 (by decide) ?_
  refine lv_icmp_ne (tgt := 19) hx hb dX11_view_12 (by decide) (fun c7 => ?_) (fun c7 => ?_)
  · replace hf := xsBr_f c7 hf
    refine lv_iload_n hx hb dX11_view_19 rfl (lv_at hl 2 rfl) ?_
    refine lv_i2l hx hb dX11_view_20 rfl ?_
    refine lv_lconst (v := (0 : Int64)) hx hb dX11_view_21 (by decide) ?_
    refine lv_iload_n hx hb dX11_view_22 rfl (lv_at hl 0 rfl) ?_
    refine lv_iconst (v := (1 : Int32)) hx hb dX11_view_23 (by decide) ?_
    refine lv_isub hx hb dX11_view_24 ?_
    refine lv_i2l hx hb dX11_view_25 rfl ?_
    replace hf := xsBd_use hf
    obtain ⟨o3, h4, hf⟩ := hf
    refine xs_calli hS (xs_runS (As := [.long a0.toInt64, .long (0 : Int64), .long (o1.1 - (1 : Int32)).toInt64]) C (mX11_in l  h4) w_1573 w_1574 w_115 w_1575 hd_X11_in ⟨rfl, rfl, Nat.le_of_ble_eq_true rfl, Nat.le_of_ble_eq_true rfl, Nat.zero_le _, Nat.zero_le _⟩ hP hD hS hl.1 rfl (Nat.le_of_ble_eq_true rfl) dX11_view_26) (fun H locs hP hD hS => ?_)
    refine lv_if_eq (tgt := 41) hx hb dX11_view_29 (by decide) (fun c6 => ?_) (fun c6 => ?_)
    · replace hf := xsBr_t c6 hf
      refine lv_iconst (v := (-1 : Int32)) hx hb dX11_view_41 (by decide) ?_
      have ho := Option.some.inj hf
      subst ho
      rw [hQq]
      exact xs_iret C hr hlk hP hD hS dX11_view_42
    · replace hf := xsBr_f c6 hf
      refine lv_aload_n hx hb dX11_view_32 rfl (lv_at hl 1 rfl) ?_
      refine xg_X11_88 C hP dX11_view_33 ?_
      refine lv_iload_n hx hb dX11_view_36 rfl (lv_at hl 2 rfl) ?_
      replace hf := xsCk_use hf
      obtain ⟨h5, hf⟩ := hf
      refine xl_mViews C hP h5 dX11_view_37 ?_
      refine lv_goto (tgt := 42) hx hb dX11_view_38 (by decide) ?_
      have ho := Option.some.inj hf
      subst ho
      rw [hQq]
      exact xs_iret C hr hlk hP hD hS dX11_view_42
  · replace hf := xsBr_t c7 hf
    refine lv_iload_n hx hb dX11_view_15 rfl (lv_at hl 0 rfl) ?_
    refine lv_goto (tgt := 42) hx hb dX11_view_16 (by decide) ?_
    have ho := Option.some.inj hf
    subst ho
    rw [hQq]
    exact xs_iret C hr hlk hP hD hS dX11_view_42
set_option maxRecDepth 100000 in
set_option maxHeartbeats 8000000 in
theorem mX11_tied (l : Launch) {X : xsX} {mThrown mRemembered mHasImage mIsLaid mEvents mCrossings mEdges mTaped mPoint mEnd mBegin mFaultAt mActs : Int32} {mWorld mImage mDraft mEarlier mOne mTwo mShare mCrossingOf mBundle mEventOf mDegree mFrom mTo mMet mTape mFive mTold mFar mViews mHullX mHullY mEndX mEndY mMeets mMeetsOf : Nat → Int32} {mX mY mD mHeightUp mHeightLow : Int64} {mEventX mEventY mEventD mUpper mLower : Nat → Int64} {Rw : va_W} {a0 : Int32} {out : Int32 × Int32 × (Nat → Int32) × (Nat → Int32) × (Nat → Int32) × Int64 × Int64 × Int64} (hf : fX11_tied mThrown mWorld mOne mTwo mShare mX mY mD a0 = some out) : Met l yX11_tied (xsWs yX11_tied cX11_tied 2 (some .int)) { frames := 6, cells := 0, slots := 0, locals := 164 } (xsP X (wM X mThrown mWorld mImage mDraft mEarlier mRemembered mHasImage mIsLaid mOne mTwo mShare mX mY mD mEventX mEventY mEventD mEvents mCrossingOf mBundle mEventOf mDegree mFrom mTo mCrossings mEdges mMet mUpper mLower mTape mTaped mPoint mEnd mBegin mFaultAt mFive mTold mActs mFar mViews mHullX mHullY mEndX mEndY mHeightUp mHeightLow mMeets mMeetsOf Rw) [.ref (xsA X 100), .int a0]) (xsQi X out.1 (wM X out.2.1 mWorld mImage mDraft mEarlier mRemembered mHasImage mIsLaid out.2.2.1 out.2.2.2.1 out.2.2.2.2.1 out.2.2.2.2.2.1 out.2.2.2.2.2.2.1 out.2.2.2.2.2.2.2 mEventX mEventY mEventD mEvents mCrossingOf mBundle mEventOf mDegree mFrom mTo mCrossings mEdges mMet mUpper mLower mTape mTaped mPoint mEnd mBegin mFaultAt mFive mTold mActs mFar mViews mHullX mHullY mEndX mEndY mHeightUp mHeightLow mMeets mMeetsOf Rw)) 0 0 (xsF X) := by
  refine xs_meth RX11 (by decide) rfl (Nat.le_of_ble_eq_true rfl) ?_
  intro p e s m below meth c ls H locs C hP hD hS hr hlk hl
  have hx := C.1
  have hb := C.2.1
  have hl : lv_has ls 2 [(0, .ref (xsA X 100)), (1, .int a0)] := hl
  obtain ⟨Qq, hQq⟩ : ∃ Qq, Qq = xsQi X out.1 (wM X out.2.1 mWorld mImage mDraft mEarlier mRemembered mHasImage mIsLaid out.2.2.1 out.2.2.2.1 out.2.2.2.2.1 out.2.2.2.2.2.1 out.2.2.2.2.2.2.1 out.2.2.2.2.2.2.2 mEventX mEventY mEventD mEvents mCrossingOf mBundle mEventOf mDegree mFrom mTo mCrossings mEdges mMet mUpper mLower mTape mTaped mPoint mEnd mBegin mFaultAt mFive mTold mActs mFar mViews mHullX mHullY mEndX mEndY mHeightUp mHeightLow mMeets mMeetsOf Rw) := ⟨_, rfl⟩
  rw [← hQq]
  unfold fX11_tied at hf
  refine lv_aload_n hx hb dX11_tied_0 rfl (lv_at hl 0 rfl) ?_
  refine lv_iload_n hx hb dX11_tied_1 rfl (lv_at hl 1 rfl) ?_
  replace hf := xsBd_use hf
  obtain ⟨o1, h2, hf⟩ := hf
  refine xs_calli hS (xs_runV (As := [.int a0]) C (mX11_noSegment l  h2) w_1638 w_1640 w_54 w_115 w_1641 hd_X11_noSegment ⟨rfl, rfl, Nat.le_of_ble_eq_true rfl, Nat.le_of_ble_eq_true rfl, Nat.zero_le _, Nat.zero_le _⟩ hP hD hS lk_X11 rfl hl.1 rfl (Nat.le_of_ble_eq_true rfl) dX11_tied_2) (fun H locs hP hD hS => ?_)
  refine lv_if_eq (tgt := 12) hx hb dX11_tied_5 (by decide) (fun c5 => ?_) (fun c5 => ?_)
  · replace hf := xsBr_t c5 hf
    refine lv_aload_n hx hb dX11_tied_12 rfl (lv_at hl 0 rfl) ?_
    refine lv_iload_n hx hb dX11_tied_13 rfl (lv_at hl 1 rfl) ?_
    replace hf := xsBd_use hf
    obtain ⟨o3, h4, hf⟩ := hf
    refine xs_calli hS (xs_runV (As := [.int a0]) C (mX11_tiedTo l  h4) w_1740 w_1742 w_70 w_115 w_1743 hd_X11_tiedTo ⟨rfl, rfl, Nat.le_of_ble_eq_true rfl, Nat.le_of_ble_eq_true rfl, Nat.zero_le _, Nat.zero_le _⟩ hP hD hS lk_X11 rfl hl.1 rfl (Nat.le_of_ble_eq_true rfl) dX11_tied_14) (fun H locs hP hD hS => ?_)
    have ho := Option.some.inj hf
    subst ho
    rw [hQq]
    exact xs_iret C hr hlk hP hD hS dX11_tied_17
  · replace hf := xsBr_f c5 hf
    refine lv_iconst (v := (0 : Int32)) hx hb dX11_tied_8 (by decide) ?_
    refine lv_goto (tgt := 17) hx hb dX11_tied_9 (by decide) ?_
    have ho := Option.some.inj hf
    subst ho
    rw [hQq]
    exact xs_iret C hr hlk hP hD hS dX11_tied_17
set_option maxRecDepth 100000 in
set_option maxHeartbeats 8000000 in
theorem mX11_steps (l : Launch) {X : xsX} {mThrown mRemembered mHasImage mIsLaid mEvents mCrossings mEdges mTaped mPoint mEnd mBegin mFaultAt mActs : Int32} {mWorld mImage mDraft mEarlier mOne mTwo mShare mCrossingOf mBundle mEventOf mDegree mFrom mTo mMet mTape mFive mTold mFar mViews mHullX mHullY mEndX mEndY mMeets mMeetsOf : Nat → Int32} {mX mY mD mHeightUp mHeightLow : Int64} {mEventX mEventY mEventD mUpper mLower : Nat → Int64} {Rw : va_W} {a0 : Int32} {a1 : Int32} {out : Int32 × Int32 × (Nat → Int32) × (Nat → Int32) × (Nat → Int32) × Int64 × Int64 × Int64} (hf : fX11_steps mThrown mWorld mOne mTwo mShare mX mY mD a0 a1 = some out) : Met l yX11_steps (xsWs yX11_steps cX11_steps 7 (some .int)) { frames := 6, cells := 0, slots := 0, locals := 164 } (xsP X (wM X mThrown mWorld mImage mDraft mEarlier mRemembered mHasImage mIsLaid mOne mTwo mShare mX mY mD mEventX mEventY mEventD mEvents mCrossingOf mBundle mEventOf mDegree mFrom mTo mCrossings mEdges mMet mUpper mLower mTape mTaped mPoint mEnd mBegin mFaultAt mFive mTold mActs mFar mViews mHullX mHullY mEndX mEndY mHeightUp mHeightLow mMeets mMeetsOf Rw) [.ref (xsA X 100), .int a0, .int a1]) (xsQi X out.1 (wM X out.2.1 mWorld mImage mDraft mEarlier mRemembered mHasImage mIsLaid out.2.2.1 out.2.2.2.1 out.2.2.2.2.1 out.2.2.2.2.2.1 out.2.2.2.2.2.2.1 out.2.2.2.2.2.2.2 mEventX mEventY mEventD mEvents mCrossingOf mBundle mEventOf mDegree mFrom mTo mCrossings mEdges mMet mUpper mLower mTape mTaped mPoint mEnd mBegin mFaultAt mFive mTold mActs mFar mViews mHullX mHullY mEndX mEndY mHeightUp mHeightLow mMeets mMeetsOf Rw)) 0 0 (xsF X) := by
  refine xs_meth RX11 (by decide) rfl (Nat.le_of_ble_eq_true rfl) ?_
  intro p e s m below meth c ls H locs C hP hD hS hr hlk hl
  have hx := C.1
  have hb := C.2.1
  have hl : lv_has ls 7 [(0, .ref (xsA X 100)), (1, .int a0), (2, .int a1)] := hl
  obtain ⟨Qq, hQq⟩ : ∃ Qq, Qq = xsQi X out.1 (wM X out.2.1 mWorld mImage mDraft mEarlier mRemembered mHasImage mIsLaid out.2.2.1 out.2.2.2.1 out.2.2.2.2.1 out.2.2.2.2.2.1 out.2.2.2.2.2.2.1 out.2.2.2.2.2.2.2 mEventX mEventY mEventD mEvents mCrossingOf mBundle mEventOf mDegree mFrom mTo mCrossings mEdges mMet mUpper mLower mTape mTaped mPoint mEnd mBegin mFaultAt mFive mTold mActs mFar mViews mHullX mHullY mEndX mEndY mHeightUp mHeightLow mMeets mMeetsOf Rw) := ⟨_, rfl⟩
  rw [← hQq]
  unfold fX11_steps at hf
  refine lv_aload_n hx hb dX11_steps_0 rfl (lv_at hl 0 rfl) ?_
  refine lv_iload_n hx hb dX11_steps_1 rfl (lv_at hl 1 rfl) ?_
  refine lv_iload_n hx hb dX11_steps_2 rfl (lv_at hl 2 rfl) ?_
  replace hf := xsBd_use hf
  obtain ⟨o1, h2, hf⟩ := hf
  refine xs_calli hS (xs_runV (As := [.int a0, .int a1]) C (mX11_noTwo l  h2) w_1748 w_1750 w_71 w_115 w_1751 hd_X11_noTwo ⟨rfl, rfl, Nat.le_of_ble_eq_true rfl, Nat.le_of_ble_eq_true rfl, Nat.zero_le _, Nat.zero_le _⟩ hP hD hS lk_X11 rfl hl.1 rfl (Nat.le_of_ble_eq_true rfl) dX11_steps_3) (fun H locs hP hD hS => ?_)
  refine lv_if_eq (tgt := 11) hx hb dX11_steps_6 (by decide) (fun c61 => ?_) (fun c61 => ?_)
  · replace hf := xsBr_t c61 hf
    refine lv_iconst (v := (1 : Int32)) hx hb dX11_steps_11 (by decide) ?_
    refine lv_iload_n hx hb dX11_steps_12 rfl (lv_at hl 1 rfl) ?_
    refine lv_ishl hx hb dX11_steps_13 ?_
    refine lv_topi (fun x3 ex3 => ?_)
    replace hf := xsLt_use ex3 hf
    refine lv_istore_n (lv' := [(3, .int x3), (0, .ref (xsA X 100)), (1, .int a0), (2, .int a1)]) hx hb dX11_steps_14 rfl hl (by decide) rfl (fun ls hl => ?_)
    refine lv_iconst (v := (0 : Int32)) hx hb dX11_steps_15 (by decide) ?_
    refine lv_istore (lv' := [(4, .int (0 : Int32)), (3, .int x3), (0, .ref (xsA X 100)), (1, .int a0), (2, .int a1)]) hx hb dX11_steps_16 hl (by decide) rfl (fun ls hl => ?_)
    have K12 : ∀ (y13 : Int32) (y14 : Nat → Int32) (y15 : Nat → Int32) (y16 : Nat → Int32) (y17 : Int64) (y18 : Int64) (y19 : Int64) (hf : fX11_steps_J26 o1 y13 y14 y15 y16 y17 y18 y19 = some out) (H : Heap) (locs : List Loc) (ls : Array Slot), va_P (xsD X) vwCl (wM X o1.2 mWorld mImage mDraft mEarlier mRemembered mHasImage mIsLaid y14 y15 y16 y17 y18 y19 mEventX mEventY mEventD mEvents mCrossingOf mBundle mEventOf mDegree mFrom mTo mCrossings mEdges mMet mUpper mLower mTape mTaped mPoint mEnd mBegin mFaultAt mFive mTold mActs mFar mViews mHullX mHullY mEndX mEndY mHeightUp mHeightLow mMeets mMeetsOf Rw) H → va_D (xsF X) (wM X o1.2 mWorld mImage mDraft mEarlier mRemembered mHasImage mIsLaid y14 y15 y16 y17 y18 y19 mEventX mEventY mEventD mEvents mCrossingOf mBundle mEventOf mDegree mFrom mTo mCrossings mEdges mMet mUpper mLower mTape mTaped mPoint mEnd mBegin mFaultAt mFive mTold mActs mFar mViews mHullX mHullY mEndX mEndY mHeightUp mHeightLow mMeets mMeetsOf Rw) → va_S (xsF X) s.heap H locs → lv_has ls 7 [(4, .int y13)] → W p l e { frames := 6, cells := 0, slots := 0, locals := 164 } s m ([.ref (xsA X 100), .int a0, .int a1] : List Value).toArray below meth c H locs 0 0 (MQ below Qq ([.ref (xsA X 100), .int a0, .int a1] : List Value).toArray s 0 0 (xsF X)) (F0 m 26 ls []) := by
      intro y13 y14 y15 y16 y17 y18 y19 hf H locs ls hP hD hS hl
      unfold fX11_steps_J26 at hf
      refine lv_iload hx hb dX11_steps_26 (lv_at hl 0 rfl) ?_
      have ho := Option.some.inj hf
      subst ho
      rw [hQq]
      exact xs_iret C hr hlk hP hD hS dX11_steps_28
    replace hf := xsBd_use hf
    obtain ⟨r12, hk120, hf⟩ := hf
    have L12 : ∀ (sg : Int32 × Int32 × (Nat → Int32) × (Nat → Int32) × (Nat → Int32) × Int64 × Int64 × Int64) (rg : (Int32 × Int32 × (Nat → Int32) × (Nat → Int32) × (Nat → Int32) × Int64 × Int64 × Int64) ⊕ (Int32 × (Nat → Int32) × (Nat → Int32) × (Nat → Int32) × Int64 × Int64 × Int64)), xsWh (fun s12 => fX11_steps_L18 mWorld a1 o1 s12.1 s12.2.1 s12.2.2.1 s12.2.2.2.1 s12.2.2.2.2.1 s12.2.2.2.2.2.1 s12.2.2.2.2.2.2.1 s12.2.2.2.2.2.2.2) sg = some rg → (xsSm rg (fun v12 => fX11_steps_J26 o1 v12.1 v12.2.1 v12.2.2.1 v12.2.2.2.1 v12.2.2.2.2.1 v12.2.2.2.2.2.1 v12.2.2.2.2.2.2) = some out → ∀ (H : Heap) (locs : List Loc) (ls : Array Slot), va_P (xsD X) vwCl (wM X o1.2 mWorld mImage mDraft mEarlier mRemembered mHasImage mIsLaid sg.2.2.1 sg.2.2.2.1 sg.2.2.2.2.1 sg.2.2.2.2.2.1 sg.2.2.2.2.2.2.1 sg.2.2.2.2.2.2.2 mEventX mEventY mEventD mEvents mCrossingOf mBundle mEventOf mDegree mFrom mTo mCrossings mEdges mMet mUpper mLower mTape mTaped mPoint mEnd mBegin mFaultAt mFive mTold mActs mFar mViews mHullX mHullY mEndX mEndY mHeightUp mHeightLow mMeets mMeetsOf Rw) H → va_D (xsF X) (wM X o1.2 mWorld mImage mDraft mEarlier mRemembered mHasImage mIsLaid sg.2.2.1 sg.2.2.2.1 sg.2.2.2.2.1 sg.2.2.2.2.2.1 sg.2.2.2.2.2.2.1 sg.2.2.2.2.2.2.2 mEventX mEventY mEventD mEvents mCrossingOf mBundle mEventOf mDegree mFrom mTo mCrossings mEdges mMet mUpper mLower mTape mTaped mPoint mEnd mBegin mFaultAt mFive mTold mActs mFar mViews mHullX mHullY mEndX mEndY mHeightUp mHeightLow mMeets mMeetsOf Rw) → va_S (xsF X) s.heap H locs → lv_has ls 7 [(0, .ref (xsA X 100)), (2, .int a1), (3, .int sg.1), (4, .int sg.2.1)] → W p l e { frames := 6, cells := 0, slots := 0, locals := 164 } s m ([.ref (xsA X 100), .int a0, .int a1] : List Value).toArray below meth c H locs 0 0 (MQ below Qq ([.ref (xsA X 100), .int a0, .int a1] : List Value).toArray s 0 0 (xsF X)) (F0 m 18 ls [])) := by
      refine xsWh_ind ?_
      intro sg r12 u12 hf ih12 hx12 hk12 H locs ls hP hD hS hl
      obtain ⟨y4, y5, y6, y7, y8, y9, y10, y11⟩ := sg
      replace hf : fX11_steps_L18 mWorld a1 o1 y4 y5 y6 y7 y8 y9 y10 y11 = some u12 := hf
      replace hl : lv_has ls 7 [(0, .ref (xsA X 100)), (2, .int a1), (3, .int y4), (4, .int y5)] := hl
      replace hP : va_P (xsD X) vwCl (wM X o1.2 mWorld mImage mDraft mEarlier mRemembered mHasImage mIsLaid y6 y7 y8 y9 y10 y11 mEventX mEventY mEventD mEvents mCrossingOf mBundle mEventOf mDegree mFrom mTo mCrossings mEdges mMet mUpper mLower mTape mTaped mPoint mEnd mBegin mFaultAt mFive mTold mActs mFar mViews mHullX mHullY mEndX mEndY mHeightUp mHeightLow mMeets mMeetsOf Rw) H := hP
      replace hD : va_D (xsF X) (wM X o1.2 mWorld mImage mDraft mEarlier mRemembered mHasImage mIsLaid y6 y7 y8 y9 y10 y11 mEventX mEventY mEventD mEvents mCrossingOf mBundle mEventOf mDegree mFrom mTo mCrossings mEdges mMet mUpper mLower mTape mTaped mPoint mEnd mBegin mFaultAt mFive mTold mActs mFar mViews mHullX mHullY mEndX mEndY mHeightUp mHeightLow mMeets mMeetsOf Rw) := hD
      unfold fX11_steps_L18 at hf
      refine lv_iload_n hx hb dX11_steps_18 rfl (lv_at hl 2 rfl) ?_
      refine lv_iload_n hx hb dX11_steps_19 rfl (lv_at hl 1 rfl) ?_
      replace hf := xsBd_use hf
      obtain ⟨o20, h21, hf⟩ := hf
      refine xs_calli hS (xs_runS (As := [.int y4, .int a1]) C (mX11_holds l  h21) w_1700 w_1701 w_115 w_1702 hd_X11_holds ⟨rfl, rfl, Nat.le_of_ble_eq_true rfl, Nat.le_of_ble_eq_true rfl, Nat.zero_le _, Nat.zero_le _⟩ hP hD hS hl.1 rfl (Nat.le_of_ble_eq_true rfl) dX11_steps_20) (fun H locs hP hD hS => ?_)
      refine lv_if_eq (tgt := 29) hx hb dX11_steps_23 (by decide) (fun c60 => ?_) (fun c60 => ?_)
      · replace hf := xsBr_t c60 hf
        refine lv_iload_n hx hb dX11_steps_29 rfl (lv_at hl 2 rfl) ?_
        refine lv_istore (lv' := [(5, .int y4), (0, .ref (xsA X 100)), (2, .int a1), (3, .int y4), (4, .int y5)]) hx hb dX11_steps_30 hl (by decide) rfl (fun ls hl => ?_)
        refine lv_iconst (v := (0 : Int32)) hx hb dX11_steps_32 (by decide) ?_
        refine lv_istore (lv' := [(6, .int (0 : Int32)), (5, .int y4), (0, .ref (xsA X 100)), (2, .int a1), (3, .int y4), (4, .int y5)]) hx hb dX11_steps_33 hl (by decide) rfl (fun ls hl => ?_)
        have K30 : ∀ (y31 : Int32) (y32 : Nat → Int32) (y33 : Nat → Int32) (y34 : Nat → Int32) (y35 : Int64) (y36 : Int64) (y37 : Int64) (hf : fX11_steps_J74 o1 y4 y5 y31 y32 y33 y34 y35 y36 y37 = some u12) (H : Heap) (locs : List Loc) (ls : Array Slot), va_P (xsD X) vwCl (wM X o1.2 mWorld mImage mDraft mEarlier mRemembered mHasImage mIsLaid y32 y33 y34 y35 y36 y37 mEventX mEventY mEventD mEvents mCrossingOf mBundle mEventOf mDegree mFrom mTo mCrossings mEdges mMet mUpper mLower mTape mTaped mPoint mEnd mBegin mFaultAt mFive mTold mActs mFar mViews mHullX mHullY mEndX mEndY mHeightUp mHeightLow mMeets mMeetsOf Rw) H → va_D (xsF X) (wM X o1.2 mWorld mImage mDraft mEarlier mRemembered mHasImage mIsLaid y32 y33 y34 y35 y36 y37 mEventX mEventY mEventD mEvents mCrossingOf mBundle mEventOf mDegree mFrom mTo mCrossings mEdges mMet mUpper mLower mTape mTaped mPoint mEnd mBegin mFaultAt mFive mTold mActs mFar mViews mHullX mHullY mEndX mEndY mHeightUp mHeightLow mMeets mMeetsOf Rw) → va_S (xsF X) s.heap H locs → lv_has ls 7 [(0, .ref (xsA X 100)), (2, .int a1), (3, .int y4), (4, .int y5), (5, .int y31)] → W p l e { frames := 6, cells := 0, slots := 0, locals := 164 } s m ([.ref (xsA X 100), .int a0, .int a1] : List Value).toArray below meth c H locs 0 0 (MQ below Qq ([.ref (xsA X 100), .int a0, .int a1] : List Value).toArray s 0 0 (xsF X)) (F0 m 74 ls []) := by
          intro y31 y32 y33 y34 y35 y36 y37 hf H locs ls hP hD hS hl
          unfold fX11_steps_J74 at hf
          refine lv_iload hx hb dX11_steps_74 (lv_at hl 4 rfl) ?_
          refine lv_iload_n hx hb dX11_steps_76 rfl (lv_at hl 2 rfl) ?_
          refine lv_icmp_ne (tgt := 82) hx hb dX11_steps_77 (by decide) (fun c39 => ?_) (fun c39 => ?_)
          · replace hf := xsBr_f c39 hf
            refine lv_iload hx hb dX11_steps_82 (lv_at hl 4 rfl) ?_
            refine lv_istore_n (lv' := [(3, .int y31), (0, .ref (xsA X 100)), (2, .int a1), (4, .int y5), (5, .int y31)]) hx hb dX11_steps_84 rfl hl (by decide) rfl (fun ls hl => ?_)
            obtain ⟨x38, ex38⟩ : ∃ y : Int32, y = y5 + (1 : Int32) := ⟨_, rfl⟩
            replace hf := xsLt_use ex38 hf
            refine lv_iinc (v := x38) (lv' := [(4, .int x38), (3, .int y31), (0, .ref (xsA X 100)), (2, .int a1), (5, .int y31)]) hx hb dX11_steps_85 hl (k := 3) rfl (by rw [ex38]; rfl) (by decide) rfl (fun ls hl => ?_)
            refine lv_goto (tgt := 18) hx hb dX11_steps_88 (by decide) ?_
            exact ih12 _ (Option.some.inj hf).symm hk12 H locs ls hP hD hS (lv_sub hl [2, 3, 1, 0] rfl)
          · replace hf := xsBr_t c39 hf
            refine lv_iconst (v := (-1 : Int32)) hx hb dX11_steps_80 (by decide) ?_
            have ez := hx12 _ (Option.some.inj hf).symm
            subst ez
            have hf := hk12
            have ho := Option.some.inj hf
            subst ho
            rw [hQq]
            exact xs_iret C hr hlk hP hD hS dX11_steps_81
        replace hf := xsBd_use hf
        obtain ⟨r30, hk300, hf⟩ := hf
        have L30 : ∀ (sg : Int32 × Int32 × (Nat → Int32) × (Nat → Int32) × (Nat → Int32) × Int64 × Int64 × Int64) (rg : Int32 × (Nat → Int32) × (Nat → Int32) × (Nat → Int32) × Int64 × Int64 × Int64), xsWh (fun s30 => fX11_steps_L35 mWorld y4 s30.1 s30.2.1 s30.2.2.1 s30.2.2.2.1 s30.2.2.2.2.1 s30.2.2.2.2.2.1 s30.2.2.2.2.2.2.1 s30.2.2.2.2.2.2.2) sg = some rg → (fX11_steps_J74 o1 y4 y5 rg.1 rg.2.1 rg.2.2.1 rg.2.2.2.1 rg.2.2.2.2.1 rg.2.2.2.2.2.1 rg.2.2.2.2.2.2 = some u12 → ∀ (H : Heap) (locs : List Loc) (ls : Array Slot), va_P (xsD X) vwCl (wM X o1.2 mWorld mImage mDraft mEarlier mRemembered mHasImage mIsLaid sg.2.2.1 sg.2.2.2.1 sg.2.2.2.2.1 sg.2.2.2.2.2.1 sg.2.2.2.2.2.2.1 sg.2.2.2.2.2.2.2 mEventX mEventY mEventD mEvents mCrossingOf mBundle mEventOf mDegree mFrom mTo mCrossings mEdges mMet mUpper mLower mTape mTaped mPoint mEnd mBegin mFaultAt mFive mTold mActs mFar mViews mHullX mHullY mEndX mEndY mHeightUp mHeightLow mMeets mMeetsOf Rw) H → va_D (xsF X) (wM X o1.2 mWorld mImage mDraft mEarlier mRemembered mHasImage mIsLaid sg.2.2.1 sg.2.2.2.1 sg.2.2.2.2.1 sg.2.2.2.2.2.1 sg.2.2.2.2.2.2.1 sg.2.2.2.2.2.2.2 mEventX mEventY mEventD mEvents mCrossingOf mBundle mEventOf mDegree mFrom mTo mCrossings mEdges mMet mUpper mLower mTape mTaped mPoint mEnd mBegin mFaultAt mFive mTold mActs mFar mViews mHullX mHullY mEndX mEndY mHeightUp mHeightLow mMeets mMeetsOf Rw) → va_S (xsF X) s.heap H locs → lv_has ls 7 [(0, .ref (xsA X 100)), (2, .int a1), (3, .int y4), (4, .int y5), (5, .int sg.1), (6, .int sg.2.1)] → W p l e { frames := 6, cells := 0, slots := 0, locals := 164 } s m ([.ref (xsA X 100), .int a0, .int a1] : List Value).toArray below meth c H locs 0 0 (MQ below Qq ([.ref (xsA X 100), .int a0, .int a1] : List Value).toArray s 0 0 (xsF X)) (F0 m 35 ls [])) := by
          refine xsWh_ind ?_
          intro sg r30 u30 hf ih30 hx30 hk30 H locs ls hP hD hS hl
          obtain ⟨y22, y23, y24, y25, y26, y27, y28, y29⟩ := sg
          replace hf : fX11_steps_L35 mWorld y4 y22 y23 y24 y25 y26 y27 y28 y29 = some u30 := hf
          replace hl : lv_has ls 7 [(0, .ref (xsA X 100)), (2, .int a1), (3, .int y4), (4, .int y5), (5, .int y22), (6, .int y23)] := hl
          replace hP : va_P (xsD X) vwCl (wM X o1.2 mWorld mImage mDraft mEarlier mRemembered mHasImage mIsLaid y24 y25 y26 y27 y28 y29 mEventX mEventY mEventD mEvents mCrossingOf mBundle mEventOf mDegree mFrom mTo mCrossings mEdges mMet mUpper mLower mTape mTaped mPoint mEnd mBegin mFaultAt mFive mTold mActs mFar mViews mHullX mHullY mEndX mEndY mHeightUp mHeightLow mMeets mMeetsOf Rw) H := hP
          replace hD : va_D (xsF X) (wM X o1.2 mWorld mImage mDraft mEarlier mRemembered mHasImage mIsLaid y24 y25 y26 y27 y28 y29 mEventX mEventY mEventD mEvents mCrossingOf mBundle mEventOf mDegree mFrom mTo mCrossings mEdges mMet mUpper mLower mTape mTaped mPoint mEnd mBegin mFaultAt mFive mTold mActs mFar mViews mHullX mHullY mEndX mEndY mHeightUp mHeightLow mMeets mMeetsOf Rw) := hD
          unfold fX11_steps_L35 at hf
          refine lv_iload hx hb dX11_steps_35 (lv_at hl 5 rfl) ?_
          refine lv_aload_n hx hb dX11_steps_37 rfl (lv_at hl 0 rfl) ?_
          replace hf := xsBd_use hf
          obtain ⟨o40, h41, hf⟩ := hf
          refine xs_calli hS (xs_runV (As := []) C (mX11_many l  h41) w_1581 w_1583 w_44 w_115 w_1584 hd_X11_many ⟨rfl, rfl, Nat.le_of_ble_eq_true rfl, Nat.le_of_ble_eq_true rfl, Nat.zero_le _, Nat.zero_le _⟩ hP hD hS lk_X11 rfl hl.1 rfl (Nat.le_of_ble_eq_true rfl) dX11_steps_38) (fun H locs hP hD hS => ?_)
          refine lv_icmp_ge (tgt := 74) hx hb dX11_steps_41 (by decide) (fun c59 => ?_) (fun c59 => ?_)
          · replace hf := xsBr_t c59 hf
            have ez := hx30 _ (Option.some.inj hf).symm
            subst ez
            exact K30 y22 y24 y25 y26 y27 y28 y29 hk30 H locs ls hP hD hS (lv_sub hl [0, 1, 2, 3, 4] rfl)
          · replace hf := xsBr_f c59 hf
            refine lv_iload hx hb dX11_steps_44 (lv_at hl 4 rfl) ?_
            refine lv_iload_n hx hb dX11_steps_46 rfl (lv_at hl 2 rfl) ?_
            refine lv_iload hx hb dX11_steps_47 (lv_at hl 5 rfl) ?_
            replace hf := xsBd_use hf
            obtain ⟨o42, h43, hf⟩ := hf
            refine xs_calli hS (xs_runS (As := [.int y4, .int y23]) C (mX11_holds l  h43) w_1700 w_1701 w_115 w_1702 hd_X11_holds ⟨rfl, rfl, Nat.le_of_ble_eq_true rfl, Nat.le_of_ble_eq_true rfl, Nat.zero_le _, Nat.zero_le _⟩ hP hD hS hl.1 rfl (Nat.le_of_ble_eq_true rfl) dX11_steps_49) (fun H locs hP hD hS => ?_)
            have K55 : ∀ (y44 : Int32) (y45 : Nat → Int32) (y46 : Nat → Int32) (y47 : Nat → Int32) (y48 : Int64) (y49 : Int64) (y50 : Int64) (hf : fX11_steps_J65 y22 y23 y44 y45 y46 y47 y48 y49 y50 = some u30) (H : Heap) (locs : List Loc) (ls : Array Slot), va_P (xsD X) vwCl (wM X o1.2 mWorld mImage mDraft mEarlier mRemembered mHasImage mIsLaid y45 y46 y47 y48 y49 y50 mEventX mEventY mEventD mEvents mCrossingOf mBundle mEventOf mDegree mFrom mTo mCrossings mEdges mMet mUpper mLower mTape mTaped mPoint mEnd mBegin mFaultAt mFive mTold mActs mFar mViews mHullX mHullY mEndX mEndY mHeightUp mHeightLow mMeets mMeetsOf Rw) H → va_D (xsF X) (wM X o1.2 mWorld mImage mDraft mEarlier mRemembered mHasImage mIsLaid y45 y46 y47 y48 y49 y50 mEventX mEventY mEventD mEvents mCrossingOf mBundle mEventOf mDegree mFrom mTo mCrossings mEdges mMet mUpper mLower mTape mTaped mPoint mEnd mBegin mFaultAt mFive mTold mActs mFar mViews mHullX mHullY mEndX mEndY mHeightUp mHeightLow mMeets mMeetsOf Rw) → va_S (xsF X) s.heap H locs → lv_has ls 7 [(0, .ref (xsA X 100)), (2, .int a1), (3, .int y4), (4, .int y5), (6, .int y23)] → W p l e { frames := 6, cells := 0, slots := 0, locals := 164 } s m ([.ref (xsA X 100), .int a0, .int a1] : List Value).toArray below meth c H locs 0 0 (MQ below Qq ([.ref (xsA X 100), .int a0, .int a1] : List Value).toArray s 0 0 (xsF X)) (F0 m 65 ls [.int y44, .int y22]) := by
              intro y44 y45 y46 y47 y48 y49 y50 hf H locs ls hP hD hS hl
              unfold fX11_steps_J65 at hf
              refine lv_ior hx hb dX11_steps_65 ?_
              refine lv_topi (fun x51 ex51 => ?_)
              replace hf := xsLt_use ex51 hf
              refine lv_istore (lv' := [(5, .int x51), (0, .ref (xsA X 100)), (2, .int a1), (3, .int y4), (4, .int y5), (6, .int y23)]) hx hb dX11_steps_66 hl (by decide) rfl (fun ls hl => ?_)
              obtain ⟨x52, ex52⟩ : ∃ y : Int32, y = y23 + (1 : Int32) := ⟨_, rfl⟩
              replace hf := xsLt_use ex52 hf
              refine lv_iinc (v := x52) (lv' := [(6, .int x52), (5, .int x51), (0, .ref (xsA X 100)), (2, .int a1), (3, .int y4), (4, .int y5)]) hx hb dX11_steps_68 hl (k := 5) rfl (by rw [ex52]; rfl) (by decide) rfl (fun ls hl => ?_)
              refine lv_goto (tgt := 35) hx hb dX11_steps_71 (by decide) ?_
              exact ih30 _ (Option.some.inj hf).symm hk30 H locs ls hP hD hS (lv_sub hl [2, 3, 4, 5, 1, 0] rfl)
            replace hf := xsBd_use hf
            obtain ⟨v53, hf, hk54⟩ := hf
            refine lv_if_eq (tgt := 64) hx hb dX11_steps_52 (by decide) (fun c58 => ?_) (fun c58 => ?_)
            · replace hf := xsBr_t c58 hf
              refine lv_iconst (v := (0 : Int32)) hx hb dX11_steps_64 (by decide) ?_
              have ev := Option.some.inj hf
              subst ev
              exact K55 (0 : Int32) y24 y25 y26 y27 y28 y29 hk54 H locs ls hP hD hS (lv_sub hl [0, 1, 2, 3, 5] rfl)
            · replace hf := xsBr_f c58 hf
              refine lv_aload_n hx hb dX11_steps_55 rfl (lv_at hl 0 rfl) ?_
              refine lv_iload hx hb dX11_steps_56 (lv_at hl 5 rfl) ?_
              replace hf := xsBd_use hf
              obtain ⟨o56, h57, hf⟩ := hf
              refine xs_calli hS (xs_runV (As := [.int y23]) C (mX11_tiedTo l  h57) w_1740 w_1742 w_70 w_115 w_1743 hd_X11_tiedTo ⟨rfl, rfl, Nat.le_of_ble_eq_true rfl, Nat.le_of_ble_eq_true rfl, Nat.zero_le _, Nat.zero_le _⟩ hP hD hS lk_X11 rfl hl.1 rfl (Nat.le_of_ble_eq_true rfl) dX11_steps_58) (fun H locs hP hD hS => ?_)
              refine lv_goto (tgt := 65) hx hb dX11_steps_61 (by decide) ?_
              have ev := Option.some.inj hf
              subst ev
              exact K55 o56.1 o56.2.1 o56.2.2.1 o56.2.2.2.1 o56.2.2.2.2.1 o56.2.2.2.2.2.1 o56.2.2.2.2.2.2 hk54 H locs ls hP hD hS (lv_sub hl [0, 1, 2, 3, 5] rfl)
        exact L30 (y4, (0 : Int32), y6, y7, y8, y9, y10, y11) r30 hk300 hf H locs ls hP hD hS (lv_sub hl [2, 3, 4, 5, 1, 0] rfl)
      · replace hf := xsBr_f c60 hf
        have ez := hx12 _ (Option.some.inj hf).symm
        subst ez
        exact K12 y5 y6 y7 y8 y9 y10 y11 hk12 H locs ls hP hD hS (lv_sub hl [3] rfl)
    exact L12 (x3, (0 : Int32), mOne, mTwo, mShare, mX, mY, mD) r12 hk120 hf H locs ls hP hD hS (lv_sub hl [2, 4, 1, 0] rfl)
  · replace hf := xsBr_f c61 hf
    refine lv_iconst (v := (0 : Int32)) hx hb dX11_steps_9 (by decide) ?_
    have ho := Option.some.inj hf
    subst ho
    rw [hQq]
    exact xs_iret C hr hlk hP hD hS dX11_steps_10
set_option maxRecDepth 100000 in
set_option maxHeartbeats 8000000 in
theorem mX11_laysEnds (l : Launch) {X : xsX} {mThrown mRemembered mHasImage mIsLaid mEvents mCrossings mEdges mTaped mPoint mEnd mBegin mFaultAt mActs : Int32} {mWorld mImage mDraft mEarlier mOne mTwo mShare mCrossingOf mBundle mEventOf mDegree mFrom mTo mMet mTape mFive mTold mFar mViews mHullX mHullY mEndX mEndY mMeets mMeetsOf : Nat → Int32} {mX mY mD mHeightUp mHeightLow : Int64} {mEventX mEventY mEventD mUpper mLower : Nat → Int64} {Rw : va_W} {out : (Nat → Int32) × (Nat → Int32)} (hf : fX11_laysEnds mWorld mEndX mEndY = some out) : Met l yX11_laysEnds (xsWs yX11_laysEnds cX11_laysEnds 2 none) { frames := 1, cells := 0, slots := 0, locals := 22 } (xsP X (wM X mThrown mWorld mImage mDraft mEarlier mRemembered mHasImage mIsLaid mOne mTwo mShare mX mY mD mEventX mEventY mEventD mEvents mCrossingOf mBundle mEventOf mDegree mFrom mTo mCrossings mEdges mMet mUpper mLower mTape mTaped mPoint mEnd mBegin mFaultAt mFive mTold mActs mFar mViews mHullX mHullY mEndX mEndY mHeightUp mHeightLow mMeets mMeetsOf Rw) [.ref (xsA X 100)]) (xsQv X (wM X mThrown mWorld mImage mDraft mEarlier mRemembered mHasImage mIsLaid mOne mTwo mShare mX mY mD mEventX mEventY mEventD mEvents mCrossingOf mBundle mEventOf mDegree mFrom mTo mCrossings mEdges mMet mUpper mLower mTape mTaped mPoint mEnd mBegin mFaultAt mFive mTold mActs mFar mViews mHullX mHullY out.1 out.2 mHeightUp mHeightLow mMeets mMeetsOf Rw)) 0 0 (xsF X) := by
  refine xs_meth RX11 (by decide) rfl (Nat.le_of_ble_eq_true rfl) ?_
  intro p e s m below meth c ls H locs C hP hD hS hr hlk hl
  have hx := C.1
  have hb := C.2.1
  have hl : lv_has ls 2 [(0, .ref (xsA X 100))] := hl
  obtain ⟨Qq, hQq⟩ : ∃ Qq, Qq = xsQv X (wM X mThrown mWorld mImage mDraft mEarlier mRemembered mHasImage mIsLaid mOne mTwo mShare mX mY mD mEventX mEventY mEventD mEvents mCrossingOf mBundle mEventOf mDegree mFrom mTo mCrossings mEdges mMet mUpper mLower mTape mTaped mPoint mEnd mBegin mFaultAt mFive mTold mActs mFar mViews mHullX mHullY out.1 out.2 mHeightUp mHeightLow mMeets mMeetsOf Rw) := ⟨_, rfl⟩
  rw [← hQq]
  unfold fX11_laysEnds at hf
  refine lv_iconst (v := (0 : Int32)) hx hb dX11_laysEnds_0 (by decide) ?_
  refine lv_istore_n (lv' := [(1, .int (0 : Int32)), (0, .ref (xsA X 100))]) hx hb dX11_laysEnds_1 rfl hl (by decide) rfl (fun ls hl => ?_)
  have K4 : ∀ (y5 : Nat → Int32) (y6 : Nat → Int32) (hf : fX11_laysEnds_J76 y5 y6 = some out) (H : Heap) (locs : List Loc) (ls : Array Slot), va_P (xsD X) vwCl (wM X mThrown mWorld mImage mDraft mEarlier mRemembered mHasImage mIsLaid mOne mTwo mShare mX mY mD mEventX mEventY mEventD mEvents mCrossingOf mBundle mEventOf mDegree mFrom mTo mCrossings mEdges mMet mUpper mLower mTape mTaped mPoint mEnd mBegin mFaultAt mFive mTold mActs mFar mViews mHullX mHullY y5 y6 mHeightUp mHeightLow mMeets mMeetsOf Rw) H → va_D (xsF X) (wM X mThrown mWorld mImage mDraft mEarlier mRemembered mHasImage mIsLaid mOne mTwo mShare mX mY mD mEventX mEventY mEventD mEvents mCrossingOf mBundle mEventOf mDegree mFrom mTo mCrossings mEdges mMet mUpper mLower mTape mTaped mPoint mEnd mBegin mFaultAt mFive mTold mActs mFar mViews mHullX mHullY y5 y6 mHeightUp mHeightLow mMeets mMeetsOf Rw) → va_S (xsF X) s.heap H locs → lv_has ls 2 [] → W p l e { frames := 1, cells := 0, slots := 0, locals := 22 } s m ([.ref (xsA X 100)] : List Value).toArray below meth c H locs 0 0 (MQ below Qq ([.ref (xsA X 100)] : List Value).toArray s 0 0 (xsF X)) (F0 m 76 ls []) := by
    intro y5 y6 hf H locs ls hP hD hS hl
    unfold fX11_laysEnds_J76 at hf
    have ho := Option.some.inj hf
    subst ho
    rw [hQq]
    exact xs_vret C hr hlk hP hD hS dX11_laysEnds_76
  replace hf := xsBd_use hf
  obtain ⟨r4, hk40, hf⟩ := hf
  have L4 : ∀ (sg : Int32 × (Nat → Int32) × (Nat → Int32)) (rg : (Nat → Int32) × (Nat → Int32)), xsWh (fun s4 => fX11_laysEnds_L2 mWorld s4.1 s4.2.1 s4.2.2) sg = some rg → (fX11_laysEnds_J76 rg.1 rg.2 = some out → ∀ (H : Heap) (locs : List Loc) (ls : Array Slot), va_P (xsD X) vwCl (wM X mThrown mWorld mImage mDraft mEarlier mRemembered mHasImage mIsLaid mOne mTwo mShare mX mY mD mEventX mEventY mEventD mEvents mCrossingOf mBundle mEventOf mDegree mFrom mTo mCrossings mEdges mMet mUpper mLower mTape mTaped mPoint mEnd mBegin mFaultAt mFive mTold mActs mFar mViews mHullX mHullY sg.2.1 sg.2.2 mHeightUp mHeightLow mMeets mMeetsOf Rw) H → va_D (xsF X) (wM X mThrown mWorld mImage mDraft mEarlier mRemembered mHasImage mIsLaid mOne mTwo mShare mX mY mD mEventX mEventY mEventD mEvents mCrossingOf mBundle mEventOf mDegree mFrom mTo mCrossings mEdges mMet mUpper mLower mTape mTaped mPoint mEnd mBegin mFaultAt mFive mTold mActs mFar mViews mHullX mHullY sg.2.1 sg.2.2 mHeightUp mHeightLow mMeets mMeetsOf Rw) → va_S (xsF X) s.heap H locs → lv_has ls 2 [(0, .ref (xsA X 100)), (1, .int sg.1)] → W p l e { frames := 1, cells := 0, slots := 0, locals := 22 } s m ([.ref (xsA X 100)] : List Value).toArray below meth c H locs 0 0 (MQ below Qq ([.ref (xsA X 100)] : List Value).toArray s 0 0 (xsF X)) (F0 m 2 ls [])) := by
    refine xsWh_ind ?_
    intro sg r4 u4 hf ih4 hx4 hk4 H locs ls hP hD hS hl
    obtain ⟨y1, y2, y3⟩ := sg
    replace hf : fX11_laysEnds_L2 mWorld y1 y2 y3 = some u4 := hf
    replace hl : lv_has ls 2 [(0, .ref (xsA X 100)), (1, .int y1)] := hl
    replace hP : va_P (xsD X) vwCl (wM X mThrown mWorld mImage mDraft mEarlier mRemembered mHasImage mIsLaid mOne mTwo mShare mX mY mD mEventX mEventY mEventD mEvents mCrossingOf mBundle mEventOf mDegree mFrom mTo mCrossings mEdges mMet mUpper mLower mTape mTaped mPoint mEnd mBegin mFaultAt mFive mTold mActs mFar mViews mHullX mHullY y2 y3 mHeightUp mHeightLow mMeets mMeetsOf Rw) H := hP
    replace hD : va_D (xsF X) (wM X mThrown mWorld mImage mDraft mEarlier mRemembered mHasImage mIsLaid mOne mTwo mShare mX mY mD mEventX mEventY mEventD mEvents mCrossingOf mBundle mEventOf mDegree mFrom mTo mCrossings mEdges mMet mUpper mLower mTape mTaped mPoint mEnd mBegin mFaultAt mFive mTold mActs mFar mViews mHullX mHullY y2 y3 mHeightUp mHeightLow mMeets mMeetsOf Rw) := hD
    unfold fX11_laysEnds_L2 at hf
    refine lv_iload_n hx hb dX11_laysEnds_2 rfl (lv_at hl 1 rfl) ?_
    refine lv_aload_n hx hb dX11_laysEnds_3 rfl (lv_at hl 0 rfl) ?_
    replace hf := xsBd_use hf
    obtain ⟨o7, h8, hf⟩ := hf
    refine xs_calli hS (xs_runV (As := []) C (mX11_many l  h8) w_1581 w_1583 w_44 w_115 w_1584 hd_X11_many ⟨rfl, rfl, Nat.le_of_ble_eq_true rfl, Nat.le_of_ble_eq_true rfl, Nat.zero_le _, Nat.zero_le _⟩ hP hD hS lk_X11 rfl hl.1 rfl (Nat.le_of_ble_eq_true rfl) dX11_laysEnds_4) (fun H locs hP hD hS => ?_)
    refine lv_icmp_ge (tgt := 76) hx hb dX11_laysEnds_7 (by decide) (fun c26 => ?_) (fun c26 => ?_)
    · replace hf := xsBr_t c26 hf
      have ez := hx4 _ (Option.some.inj hf).symm
      subst ez
      exact K4 y2 y3 hk4 H locs ls hP hD hS (lv_sub hl [] rfl)
    · replace hf := xsBr_f c26 hf
      refine lv_aload_n hx hb dX11_laysEnds_10 rfl (lv_at hl 0 rfl) ?_
      refine xg_X11_97 C hP dX11_laysEnds_11 ?_
      refine lv_iconst (v := (2 : Int32)) hx hb dX11_laysEnds_14 (by decide) ?_
      refine lv_iload_n hx hb dX11_laysEnds_15 rfl (lv_at hl 1 rfl) ?_
      refine lv_imul hx hb dX11_laysEnds_16 ?_
      refine lv_aload_n hx hb dX11_laysEnds_17 rfl (lv_at hl 0 rfl) ?_
      refine lv_iload_n hx hb dX11_laysEnds_18 rfl (lv_at hl 1 rfl) ?_
      refine lv_iconst (v := (0 : Int32)) hx hb dX11_laysEnds_19 (by decide) ?_
      replace hf := xsBd_use hf
      obtain ⟨o9, h10, hf⟩ := hf
      refine xs_calli hS (xs_runV (As := [.int y1, .int (0 : Int32)]) C (mX11_of l  h10) w_1608 w_1610 w_50 w_115 w_1611 hd_X11_of ⟨rfl, rfl, Nat.le_of_ble_eq_true rfl, Nat.le_of_ble_eq_true rfl, Nat.zero_le _, Nat.zero_le _⟩ hP hD hS lk_X11 rfl hl.1 rfl (Nat.le_of_ble_eq_true rfl) dX11_laysEnds_20) (fun H locs hP hD hS => ?_)
      replace hf := xsCk_use hf
      obtain ⟨h11, hf⟩ := hf
      refine xs_mEndX C hP hD hS h11 dX11_laysEnds_23 (fun f12 ef12 H locs hP hD hS => ?_)
      replace hf := xsLt_use ef12 hf
      refine lv_aload_n hx hb dX11_laysEnds_24 rfl (lv_at hl 0 rfl) ?_
      refine xg_X11_100 C hP dX11_laysEnds_25 ?_
      refine lv_iconst (v := (2 : Int32)) hx hb dX11_laysEnds_28 (by decide) ?_
      refine lv_iload_n hx hb dX11_laysEnds_29 rfl (lv_at hl 1 rfl) ?_
      refine lv_imul hx hb dX11_laysEnds_30 ?_
      refine lv_aload_n hx hb dX11_laysEnds_31 rfl (lv_at hl 0 rfl) ?_
      refine lv_iload_n hx hb dX11_laysEnds_32 rfl (lv_at hl 1 rfl) ?_
      refine lv_iconst (v := (1 : Int32)) hx hb dX11_laysEnds_33 (by decide) ?_
      replace hf := xsBd_use hf
      obtain ⟨o13, h14, hf⟩ := hf
      refine xs_calli hS (xs_runV (As := [.int y1, .int (1 : Int32)]) C (mX11_of l  h14) w_1608 w_1610 w_50 w_115 w_1611 hd_X11_of ⟨rfl, rfl, Nat.le_of_ble_eq_true rfl, Nat.le_of_ble_eq_true rfl, Nat.zero_le _, Nat.zero_le _⟩ hP hD hS lk_X11 rfl hl.1 rfl (Nat.le_of_ble_eq_true rfl) dX11_laysEnds_34) (fun H locs hP hD hS => ?_)
      replace hf := xsCk_use hf
      obtain ⟨h15, hf⟩ := hf
      refine xs_mEndY C hP hD hS h15 dX11_laysEnds_37 (fun f16 ef16 H locs hP hD hS => ?_)
      replace hf := xsLt_use ef16 hf
      refine lv_aload_n hx hb dX11_laysEnds_38 rfl (lv_at hl 0 rfl) ?_
      refine xg_X11_97 C hP dX11_laysEnds_39 ?_
      refine lv_iconst (v := (2 : Int32)) hx hb dX11_laysEnds_42 (by decide) ?_
      refine lv_iload_n hx hb dX11_laysEnds_43 rfl (lv_at hl 1 rfl) ?_
      refine lv_imul hx hb dX11_laysEnds_44 ?_
      refine lv_iconst (v := (1 : Int32)) hx hb dX11_laysEnds_45 (by decide) ?_
      refine lv_iadd hx hb dX11_laysEnds_46 ?_
      refine lv_aload_n hx hb dX11_laysEnds_47 rfl (lv_at hl 0 rfl) ?_
      refine lv_iload_n hx hb dX11_laysEnds_48 rfl (lv_at hl 1 rfl) ?_
      refine lv_iconst (v := (2 : Int32)) hx hb dX11_laysEnds_49 (by decide) ?_
      replace hf := xsBd_use hf
      obtain ⟨o17, h18, hf⟩ := hf
      refine xs_calli hS (xs_runV (As := [.int y1, .int (2 : Int32)]) C (mX11_of l  h18) w_1608 w_1610 w_50 w_115 w_1611 hd_X11_of ⟨rfl, rfl, Nat.le_of_ble_eq_true rfl, Nat.le_of_ble_eq_true rfl, Nat.zero_le _, Nat.zero_le _⟩ hP hD hS lk_X11 rfl hl.1 rfl (Nat.le_of_ble_eq_true rfl) dX11_laysEnds_50) (fun H locs hP hD hS => ?_)
      replace hf := xsCk_use hf
      obtain ⟨h19, hf⟩ := hf
      refine xs_mEndX C hP hD hS h19 dX11_laysEnds_53 (fun f20 ef20 H locs hP hD hS => ?_)
      replace hf := xsLt_use ef20 hf
      refine lv_aload_n hx hb dX11_laysEnds_54 rfl (lv_at hl 0 rfl) ?_
      refine xg_X11_100 C hP dX11_laysEnds_55 ?_
      refine lv_iconst (v := (2 : Int32)) hx hb dX11_laysEnds_58 (by decide) ?_
      refine lv_iload_n hx hb dX11_laysEnds_59 rfl (lv_at hl 1 rfl) ?_
      refine lv_imul hx hb dX11_laysEnds_60 ?_
      refine lv_iconst (v := (1 : Int32)) hx hb dX11_laysEnds_61 (by decide) ?_
      refine lv_iadd hx hb dX11_laysEnds_62 ?_
      refine lv_aload_n hx hb dX11_laysEnds_63 rfl (lv_at hl 0 rfl) ?_
      refine lv_iload_n hx hb dX11_laysEnds_64 rfl (lv_at hl 1 rfl) ?_
      refine lv_iconst (v := (3 : Int32)) hx hb dX11_laysEnds_65 (by decide) ?_
      replace hf := xsBd_use hf
      obtain ⟨o21, h22, hf⟩ := hf
      refine xs_calli hS (xs_runV (As := [.int y1, .int (3 : Int32)]) C (mX11_of l  h22) w_1608 w_1610 w_50 w_115 w_1611 hd_X11_of ⟨rfl, rfl, Nat.le_of_ble_eq_true rfl, Nat.le_of_ble_eq_true rfl, Nat.zero_le _, Nat.zero_le _⟩ hP hD hS lk_X11 rfl hl.1 rfl (Nat.le_of_ble_eq_true rfl) dX11_laysEnds_66) (fun H locs hP hD hS => ?_)
      replace hf := xsCk_use hf
      obtain ⟨h23, hf⟩ := hf
      refine xs_mEndY C hP hD hS h23 dX11_laysEnds_69 (fun f24 ef24 H locs hP hD hS => ?_)
      replace hf := xsLt_use ef24 hf
      obtain ⟨x25, ex25⟩ : ∃ y : Int32, y = y1 + (1 : Int32) := ⟨_, rfl⟩
      replace hf := xsLt_use ex25 hf
      refine lv_iinc (v := x25) (lv' := [(1, .int x25), (0, .ref (xsA X 100))]) hx hb dX11_laysEnds_70 hl (k := 1) rfl (by rw [ex25]; rfl) (by decide) rfl (fun ls hl => ?_)
      refine lv_goto (tgt := 2) hx hb dX11_laysEnds_73 (by decide) ?_
      exact ih4 _ (Option.some.inj hf).symm hk4 H locs ls hP hD hS (lv_sub hl [1, 0] rfl)
  exact L4 ((0 : Int32), mEndX, mEndY) r4 hk40 hf H locs ls hP hD hS (lv_sub hl [1, 0] rfl)
set_option maxRecDepth 100000 in
set_option maxHeartbeats 8000000 in
theorem mX11_isFurther (l : Launch) {X : xsX} {mThrown mRemembered mHasImage mIsLaid mEvents mCrossings mEdges mTaped mPoint mEnd mBegin mFaultAt mActs : Int32} {mWorld mImage mDraft mEarlier mOne mTwo mShare mCrossingOf mBundle mEventOf mDegree mFrom mTo mMet mTape mFive mTold mFar mViews mHullX mHullY mEndX mEndY mMeets mMeetsOf : Nat → Int32} {mX mY mD mHeightUp mHeightLow : Int64} {mEventX mEventY mEventD mUpper mLower : Nat → Int64} {Rw : va_W} {a0 : Int32} {a1 : Int32} {a2 : Int32} {a3 : Int32} {out : Int32} (hf : fX11_isFurther mEndX mEndY a0 a1 a2 a3 = some out) : Met l yX11_isFurther (xsWs yX11_isFurther cX11_isFurther 7 (some .boolean)) { frames := 1, cells := 0, slots := 0, locals := 24 } (xsP X (wM X mThrown mWorld mImage mDraft mEarlier mRemembered mHasImage mIsLaid mOne mTwo mShare mX mY mD mEventX mEventY mEventD mEvents mCrossingOf mBundle mEventOf mDegree mFrom mTo mCrossings mEdges mMet mUpper mLower mTape mTaped mPoint mEnd mBegin mFaultAt mFive mTold mActs mFar mViews mHullX mHullY mEndX mEndY mHeightUp mHeightLow mMeets mMeetsOf Rw) [.ref (xsA X 100), .int a0, .int a1, .int a2, .int a3]) (xsQi X out (wM X mThrown mWorld mImage mDraft mEarlier mRemembered mHasImage mIsLaid mOne mTwo mShare mX mY mD mEventX mEventY mEventD mEvents mCrossingOf mBundle mEventOf mDegree mFrom mTo mCrossings mEdges mMet mUpper mLower mTape mTaped mPoint mEnd mBegin mFaultAt mFive mTold mActs mFar mViews mHullX mHullY mEndX mEndY mHeightUp mHeightLow mMeets mMeetsOf Rw)) 0 0 (xsF X) := by
  refine xs_meth RX11 (by decide) rfl (Nat.le_of_ble_eq_true rfl) ?_
  intro p e s m below meth c ls H locs C hP hD hS hr hlk hl
  have hx := C.1
  have hb := C.2.1
  have hl : lv_has ls 7 [(0, .ref (xsA X 100)), (1, .int a0), (2, .int a1), (3, .int a2), (4, .int a3)] := hl
  obtain ⟨Qq, hQq⟩ : ∃ Qq, Qq = xsQi X out (wM X mThrown mWorld mImage mDraft mEarlier mRemembered mHasImage mIsLaid mOne mTwo mShare mX mY mD mEventX mEventY mEventD mEvents mCrossingOf mBundle mEventOf mDegree mFrom mTo mCrossings mEdges mMet mUpper mLower mTape mTaped mPoint mEnd mBegin mFaultAt mFive mTold mActs mFar mViews mHullX mHullY mEndX mEndY mHeightUp mHeightLow mMeets mMeetsOf Rw) := ⟨_, rfl⟩
  rw [← hQq]
  unfold fX11_isFurther at hf
  refine lv_aload_n hx hb dX11_isFurther_0 rfl (lv_at hl 0 rfl) ?_
  refine xg_X11_97 C hP dX11_isFurther_1 ?_
  refine lv_iload_n hx hb dX11_isFurther_4 rfl (lv_at hl 3 rfl) ?_
  replace hf := xsCk_use hf
  obtain ⟨h1, hf⟩ := hf
  refine xl_mEndX C hP h1 dX11_isFurther_5 ?_
  refine lv_iload_n hx hb dX11_isFurther_6 rfl (lv_at hl 1 rfl) ?_
  refine lv_isub hx hb dX11_isFurther_7 ?_
  refine lv_i2l hx hb dX11_isFurther_8 rfl ?_
  refine lv_aload_n hx hb dX11_isFurther_9 rfl (lv_at hl 0 rfl) ?_
  refine xg_X11_100 C hP dX11_isFurther_10 ?_
  refine lv_iload hx hb dX11_isFurther_13 (lv_at hl 4 rfl) ?_
  replace hf := xsCk_use hf
  obtain ⟨h2, hf⟩ := hf
  refine xl_mEndY C hP h2 dX11_isFurther_15 ?_
  refine lv_iload_n hx hb dX11_isFurther_16 rfl (lv_at hl 2 rfl) ?_
  refine lv_isub hx hb dX11_isFurther_17 ?_
  refine lv_i2l hx hb dX11_isFurther_18 rfl ?_
  refine lv_lmul hx hb dX11_isFurther_19 ?_
  refine lv_aload_n hx hb dX11_isFurther_20 rfl (lv_at hl 0 rfl) ?_
  refine xg_X11_100 C hP dX11_isFurther_21 ?_
  refine lv_iload_n hx hb dX11_isFurther_24 rfl (lv_at hl 3 rfl) ?_
  replace hf := xsCk_use hf
  obtain ⟨h3, hf⟩ := hf
  refine xl_mEndY C hP h3 dX11_isFurther_25 ?_
  refine lv_iload_n hx hb dX11_isFurther_26 rfl (lv_at hl 2 rfl) ?_
  refine lv_isub hx hb dX11_isFurther_27 ?_
  refine lv_i2l hx hb dX11_isFurther_28 rfl ?_
  refine lv_aload_n hx hb dX11_isFurther_29 rfl (lv_at hl 0 rfl) ?_
  refine xg_X11_97 C hP dX11_isFurther_30 ?_
  refine lv_iload hx hb dX11_isFurther_33 (lv_at hl 4 rfl) ?_
  replace hf := xsCk_use hf
  obtain ⟨h4, hf⟩ := hf
  refine xl_mEndX C hP h4 dX11_isFurther_35 ?_
  refine lv_iload_n hx hb dX11_isFurther_36 rfl (lv_at hl 1 rfl) ?_
  refine lv_isub hx hb dX11_isFurther_37 ?_
  refine lv_i2l hx hb dX11_isFurther_38 rfl ?_
  refine lv_lmul hx hb dX11_isFurther_39 ?_
  refine lv_lsub hx hb dX11_isFurther_40 ?_
  refine lv_topl (fun x5 ex5 => ?_)
  replace hf := xsLt_use ex5 hf
  refine lv_lstore (lv' := [(5, .long x5), (0, .ref (xsA X 100)), (1, .int a0), (2, .int a1), (3, .int a2), (4, .int a3)]) hx hb dX11_isFurther_41 hl (by decide) rfl (fun ls hl => ?_)
  refine lv_lload hx hb dX11_isFurther_43 (lv_at hl 0 rfl) ?_
  refine lv_lconst (v := (0 : Int64)) hx hb dX11_isFurther_45 (by decide) ?_
  refine xs_lcmp_eq (tgt := 63) C dX11_isFurther_46 dX11_isFurther_47 (by decide) (fun c12 => ?_) (fun c12 => ?_)
  · replace hf := xsBr_t c12 hf
    refine lv_aload_n hx hb dX11_isFurther_63 rfl (lv_at hl 1 rfl) ?_
    refine xg_X11_97 C hP dX11_isFurther_64 ?_
    refine lv_iload hx hb dX11_isFurther_67 (lv_at hl 5 rfl) ?_
    replace hf := xsCk_use hf
    obtain ⟨h6, hf⟩ := hf
    refine xl_mEndX C hP h6 dX11_isFurther_69 ?_
    refine lv_iload_n hx hb dX11_isFurther_70 rfl (lv_at hl 2 rfl) ?_
    refine lv_isub hx hb dX11_isFurther_71 ?_
    refine va_mabs hx hb (C.2.2.1.trans hl.1.symm) C.2.2.2.1 (xs_kts C _ w_1883) (xs_kts C _ w_1309) (xs_kts C _ w_125) (xs_kts C _ w_1310) (Nat.le_of_ble_eq_true rfl) (Nat.le_of_ble_eq_true rfl) (Nat.zero_le _) (Nat.zero_le _) dX11_isFurther_72 ?_
    refine lv_aload_n hx hb dX11_isFurther_75 rfl (lv_at hl 1 rfl) ?_
    refine xg_X11_100 C hP dX11_isFurther_76 ?_
    refine lv_iload hx hb dX11_isFurther_79 (lv_at hl 5 rfl) ?_
    replace hf := xsCk_use hf
    obtain ⟨h7, hf⟩ := hf
    refine xl_mEndY C hP h7 dX11_isFurther_81 ?_
    refine lv_iload_n hx hb dX11_isFurther_82 rfl (lv_at hl 3 rfl) ?_
    refine lv_isub hx hb dX11_isFurther_83 ?_
    refine va_mabs hx hb (C.2.2.1.trans hl.1.symm) C.2.2.2.1 (xs_kts C _ w_1883) (xs_kts C _ w_1309) (xs_kts C _ w_125) (xs_kts C _ w_1310) (Nat.le_of_ble_eq_true rfl) (Nat.le_of_ble_eq_true rfl) (Nat.zero_le _) (Nat.zero_le _) dX11_isFurther_84 ?_
    refine lv_iadd hx hb dX11_isFurther_87 ?_
    refine lv_aload_n hx hb dX11_isFurther_88 rfl (lv_at hl 1 rfl) ?_
    refine xg_X11_97 C hP dX11_isFurther_89 ?_
    refine lv_iload_n hx hb dX11_isFurther_92 rfl (lv_at hl 4 rfl) ?_
    replace hf := xsCk_use hf
    obtain ⟨h8, hf⟩ := hf
    refine xl_mEndX C hP h8 dX11_isFurther_93 ?_
    refine lv_iload_n hx hb dX11_isFurther_94 rfl (lv_at hl 2 rfl) ?_
    refine lv_isub hx hb dX11_isFurther_95 ?_
    refine va_mabs hx hb (C.2.2.1.trans hl.1.symm) C.2.2.2.1 (xs_kts C _ w_1883) (xs_kts C _ w_1309) (xs_kts C _ w_125) (xs_kts C _ w_1310) (Nat.le_of_ble_eq_true rfl) (Nat.le_of_ble_eq_true rfl) (Nat.zero_le _) (Nat.zero_le _) dX11_isFurther_96 ?_
    refine lv_aload_n hx hb dX11_isFurther_99 rfl (lv_at hl 1 rfl) ?_
    refine xg_X11_100 C hP dX11_isFurther_100 ?_
    refine lv_iload_n hx hb dX11_isFurther_103 rfl (lv_at hl 4 rfl) ?_
    replace hf := xsCk_use hf
    obtain ⟨h9, hf⟩ := hf
    refine xl_mEndY C hP h9 dX11_isFurther_104 ?_
    refine lv_iload_n hx hb dX11_isFurther_105 rfl (lv_at hl 3 rfl) ?_
    refine lv_isub hx hb dX11_isFurther_106 ?_
    refine va_mabs hx hb (C.2.2.1.trans hl.1.symm) C.2.2.2.1 (xs_kts C _ w_1883) (xs_kts C _ w_1309) (xs_kts C _ w_125) (xs_kts C _ w_1310) (Nat.le_of_ble_eq_true rfl) (Nat.le_of_ble_eq_true rfl) (Nat.zero_le _) (Nat.zero_le _) dX11_isFurther_107 ?_
    refine lv_iadd hx hb dX11_isFurther_110 ?_
    refine lv_icmp_le (tgt := 118) hx hb dX11_isFurther_111 (by decide) (fun c10 => ?_) (fun c10 => ?_)
    · replace hf := xsBr_t c10 hf
      refine lv_iconst (v := (0 : Int32)) hx hb dX11_isFurther_118 (by decide) ?_
      have ho := Option.some.inj hf
      subst ho
      rw [hQq]
      exact xs_zret C hr hlk xsB_0 hP hD hS dX11_isFurther_119
    · replace hf := xsBr_f c10 hf
      refine lv_iconst (v := (1 : Int32)) hx hb dX11_isFurther_114 (by decide) ?_
      refine lv_goto (tgt := 119) hx hb dX11_isFurther_115 (by decide) ?_
      have ho := Option.some.inj hf
      subst ho
      rw [hQq]
      exact xs_zret C hr hlk xsB_1 hP hD hS dX11_isFurther_119
  · replace hf := xsBr_f c12 hf
    refine lv_lload hx hb dX11_isFurther_50 (lv_at hl 0 rfl) ?_
    refine lv_lconst (v := (0 : Int64)) hx hb dX11_isFurther_52 (by decide) ?_
    refine xs_lcmp_ge (tgt := 61) C dX11_isFurther_53 dX11_isFurther_54 (by decide) (fun c11 => ?_) (fun c11 => ?_)
    · replace hf := xsBr_t c11 hf
      refine lv_iconst (v := (0 : Int32)) hx hb dX11_isFurther_61 (by decide) ?_
      have ho := Option.some.inj hf
      subst ho
      rw [hQq]
      exact xs_zret C hr hlk xsB_0 hP hD hS dX11_isFurther_62
    · replace hf := xsBr_f c11 hf
      refine lv_iconst (v := (1 : Int32)) hx hb dX11_isFurther_57 (by decide) ?_
      refine lv_goto (tgt := 62) hx hb dX11_isFurther_58 (by decide) ?_
      have ho := Option.some.inj hf
      subst ho
      rw [hQq]
      exact xs_zret C hr hlk xsB_1 hP hD hS dX11_isFurther_62
set_option maxRecDepth 100000 in
set_option maxHeartbeats 8000000 in
theorem mX11_laysHull (l : Launch) {X : xsX} {mThrown mRemembered mHasImage mIsLaid mEvents mCrossings mEdges mTaped mPoint mEnd mBegin mFaultAt mActs : Int32} {mWorld mImage mDraft mEarlier mOne mTwo mShare mCrossingOf mBundle mEventOf mDegree mFrom mTo mMet mTape mFive mTold mFar mViews mHullX mHullY mEndX mEndY mMeets mMeetsOf : Nat → Int32} {mX mY mD mHeightUp mHeightLow : Int64} {mEventX mEventY mEventD mUpper mLower : Nat → Int64} {Rw : va_W} {out : Int32 × (Nat → Int32) × (Nat → Int32) × (Nat → Int32) × (Nat → Int32)} (hf : fX11_laysHull mWorld mHullX mHullY mEndX mEndY = some out) : Met l yX11_laysHull (xsWs yX11_laysHull cX11_laysHull 6 (some .int)) { frames := 2, cells := 0, slots := 0, locals := 50 } (xsP X (wM X mThrown mWorld mImage mDraft mEarlier mRemembered mHasImage mIsLaid mOne mTwo mShare mX mY mD mEventX mEventY mEventD mEvents mCrossingOf mBundle mEventOf mDegree mFrom mTo mCrossings mEdges mMet mUpper mLower mTape mTaped mPoint mEnd mBegin mFaultAt mFive mTold mActs mFar mViews mHullX mHullY mEndX mEndY mHeightUp mHeightLow mMeets mMeetsOf Rw) [.ref (xsA X 100)]) (xsQi X out.1 (wM X mThrown mWorld mImage mDraft mEarlier mRemembered mHasImage mIsLaid mOne mTwo mShare mX mY mD mEventX mEventY mEventD mEvents mCrossingOf mBundle mEventOf mDegree mFrom mTo mCrossings mEdges mMet mUpper mLower mTape mTaped mPoint mEnd mBegin mFaultAt mFive mTold mActs mFar mViews out.2.1 out.2.2.1 out.2.2.2.1 out.2.2.2.2 mHeightUp mHeightLow mMeets mMeetsOf Rw)) 0 0 (xsF X) := by
  refine xs_meth RX11 (by decide) rfl (Nat.le_of_ble_eq_true rfl) ?_
  intro p e s m below meth c ls H locs C hP hD hS hr hlk hl
  have hx := C.1
  have hb := C.2.1
  have hl : lv_has ls 6 [(0, .ref (xsA X 100))] := hl
  obtain ⟨Qq, hQq⟩ : ∃ Qq, Qq = xsQi X out.1 (wM X mThrown mWorld mImage mDraft mEarlier mRemembered mHasImage mIsLaid mOne mTwo mShare mX mY mD mEventX mEventY mEventD mEvents mCrossingOf mBundle mEventOf mDegree mFrom mTo mCrossings mEdges mMet mUpper mLower mTape mTaped mPoint mEnd mBegin mFaultAt mFive mTold mActs mFar mViews out.2.1 out.2.2.1 out.2.2.2.1 out.2.2.2.2 mHeightUp mHeightLow mMeets mMeetsOf Rw) := ⟨_, rfl⟩
  rw [← hQq]
  unfold fX11_laysHull at hf
  refine lv_aload_n hx hb dX11_laysHull_0 rfl (lv_at hl 0 rfl) ?_
  replace hf := xsBd_use hf
  obtain ⟨o1, h2, hf⟩ := hf
  refine xs_callv hS (xs_runV (As := []) C (mX11_laysEnds l  h2) w_1875 w_1877 w_89 w_115 w_1878 hd_X11_laysEnds ⟨rfl, rfl, Nat.le_of_ble_eq_true rfl, Nat.le_of_ble_eq_true rfl, Nat.zero_le _, Nat.zero_le _⟩ hP hD hS lk_X11 rfl hl.1 rfl (Nat.le_of_ble_eq_true rfl) dX11_laysHull_1) (fun H locs hP hD hS => ?_)
  refine lv_aload_n hx hb dX11_laysHull_4 rfl (lv_at hl 0 rfl) ?_
  replace hf := xsBd_use hf
  obtain ⟨o3, h4, hf⟩ := hf
  refine xs_calli hS (xs_runV (As := []) C (mX11_many l  h4) w_1581 w_1583 w_44 w_115 w_1584 hd_X11_many ⟨rfl, rfl, Nat.le_of_ble_eq_true rfl, Nat.le_of_ble_eq_true rfl, Nat.zero_le _, Nat.zero_le _⟩ hP hD hS lk_X11 rfl hl.1 rfl (Nat.le_of_ble_eq_true rfl) dX11_laysHull_5) (fun H locs hP hD hS => ?_)
  refine lv_if_ne (tgt := 13) hx hb dX11_laysHull_8 (by decide) (fun c68 => ?_) (fun c68 => ?_)
  · replace hf := xsBr_f c68 hf
    refine lv_iconst (v := (0 : Int32)) hx hb dX11_laysHull_13 (by decide) ?_
    refine lv_istore_n (lv' := [(1, .int (0 : Int32)), (0, .ref (xsA X 100))]) hx hb dX11_laysHull_14 rfl hl (by decide) rfl (fun ls hl => ?_)
    refine lv_iconst (v := (1 : Int32)) hx hb dX11_laysHull_15 (by decide) ?_
    refine lv_istore_n (lv' := [(2, .int (1 : Int32)), (1, .int (0 : Int32)), (0, .ref (xsA X 100))]) hx hb dX11_laysHull_16 rfl hl (by decide) rfl (fun ls hl => ?_)
    have K7 : ∀ (y8 : Int32) (hf : fX11_laysHull_J65 mWorld mHullX mHullY o1 y8 = some out) (H : Heap) (locs : List Loc) (ls : Array Slot), va_P (xsD X) vwCl (wM X mThrown mWorld mImage mDraft mEarlier mRemembered mHasImage mIsLaid mOne mTwo mShare mX mY mD mEventX mEventY mEventD mEvents mCrossingOf mBundle mEventOf mDegree mFrom mTo mCrossings mEdges mMet mUpper mLower mTape mTaped mPoint mEnd mBegin mFaultAt mFive mTold mActs mFar mViews mHullX mHullY o1.1 o1.2 mHeightUp mHeightLow mMeets mMeetsOf Rw) H → va_D (xsF X) (wM X mThrown mWorld mImage mDraft mEarlier mRemembered mHasImage mIsLaid mOne mTwo mShare mX mY mD mEventX mEventY mEventD mEvents mCrossingOf mBundle mEventOf mDegree mFrom mTo mCrossings mEdges mMet mUpper mLower mTape mTaped mPoint mEnd mBegin mFaultAt mFive mTold mActs mFar mViews mHullX mHullY o1.1 o1.2 mHeightUp mHeightLow mMeets mMeetsOf Rw) → va_S (xsF X) s.heap H locs → lv_has ls 6 [(0, .ref (xsA X 100)), (1, .int y8)] → W p l e { frames := 2, cells := 0, slots := 0, locals := 50 } s m ([.ref (xsA X 100)] : List Value).toArray below meth c H locs 0 0 (MQ below Qq ([.ref (xsA X 100)] : List Value).toArray s 0 0 (xsF X)) (F0 m 65 ls []) := by
      intro y8 hf H locs ls hP hD hS hl
      unfold fX11_laysHull_J65 at hf
      refine lv_iconst (v := (0 : Int32)) hx hb dX11_laysHull_65 (by decide) ?_
      refine lv_istore_n (lv' := [(2, .int (0 : Int32)), (0, .ref (xsA X 100)), (1, .int y8)]) hx hb dX11_laysHull_66 rfl hl (by decide) rfl (fun ls hl => ?_)
      refine lv_iload_n hx hb dX11_laysHull_67 rfl (lv_at hl 2 rfl) ?_
      refine lv_istore_n (lv' := [(3, .int y8), (2, .int (0 : Int32)), (0, .ref (xsA X 100)), (1, .int y8)]) hx hb dX11_laysHull_68 rfl hl (by decide) rfl (fun ls hl => ?_)
      have L13 : ∀ (sg : Int32 × Int32 × (Nat → Int32) × (Nat → Int32)) (rg : Int32 × (Nat → Int32) × (Nat → Int32) × (Nat → Int32) × (Nat → Int32)), xsWh (fun s13 => fX11_laysHull_L69 mWorld o1 y8 s13.1 s13.2.1 s13.2.2.1 s13.2.2.2) sg = some rg → (some rg = some out → ∀ (H : Heap) (locs : List Loc) (ls : Array Slot), va_P (xsD X) vwCl (wM X mThrown mWorld mImage mDraft mEarlier mRemembered mHasImage mIsLaid mOne mTwo mShare mX mY mD mEventX mEventY mEventD mEvents mCrossingOf mBundle mEventOf mDegree mFrom mTo mCrossings mEdges mMet mUpper mLower mTape mTaped mPoint mEnd mBegin mFaultAt mFive mTold mActs mFar mViews sg.2.2.1 sg.2.2.2 o1.1 o1.2 mHeightUp mHeightLow mMeets mMeetsOf Rw) H → va_D (xsF X) (wM X mThrown mWorld mImage mDraft mEarlier mRemembered mHasImage mIsLaid mOne mTwo mShare mX mY mD mEventX mEventY mEventD mEvents mCrossingOf mBundle mEventOf mDegree mFrom mTo mCrossings mEdges mMet mUpper mLower mTape mTaped mPoint mEnd mBegin mFaultAt mFive mTold mActs mFar mViews sg.2.2.1 sg.2.2.2 o1.1 o1.2 mHeightUp mHeightLow mMeets mMeetsOf Rw) → va_S (xsF X) s.heap H locs → lv_has ls 6 [(0, .ref (xsA X 100)), (1, .int y8), (2, .int sg.1), (3, .int sg.2.1)] → W p l e { frames := 2, cells := 0, slots := 0, locals := 50 } s m ([.ref (xsA X 100)] : List Value).toArray below meth c H locs 0 0 (MQ below Qq ([.ref (xsA X 100)] : List Value).toArray s 0 0 (xsF X)) (F0 m 69 ls [])) := by
        refine xsWh_ind ?_
        intro sg r13 u13 hf ih13 hx13 hk13 H locs ls hP hD hS hl
        obtain ⟨y9, y10, y11, y12⟩ := sg
        replace hf : fX11_laysHull_L69 mWorld o1 y8 y9 y10 y11 y12 = some u13 := hf
        replace hl : lv_has ls 6 [(0, .ref (xsA X 100)), (1, .int y8), (2, .int y9), (3, .int y10)] := hl
        replace hP : va_P (xsD X) vwCl (wM X mThrown mWorld mImage mDraft mEarlier mRemembered mHasImage mIsLaid mOne mTwo mShare mX mY mD mEventX mEventY mEventD mEvents mCrossingOf mBundle mEventOf mDegree mFrom mTo mCrossings mEdges mMet mUpper mLower mTape mTaped mPoint mEnd mBegin mFaultAt mFive mTold mActs mFar mViews y11 y12 o1.1 o1.2 mHeightUp mHeightLow mMeets mMeetsOf Rw) H := hP
        replace hD : va_D (xsF X) (wM X mThrown mWorld mImage mDraft mEarlier mRemembered mHasImage mIsLaid mOne mTwo mShare mX mY mD mEventX mEventY mEventD mEvents mCrossingOf mBundle mEventOf mDegree mFrom mTo mCrossings mEdges mMet mUpper mLower mTape mTaped mPoint mEnd mBegin mFaultAt mFive mTold mActs mFar mViews y11 y12 o1.1 o1.2 mHeightUp mHeightLow mMeets mMeetsOf Rw) := hD
        unfold fX11_laysHull_L69 at hf
        refine lv_aload_n hx hb dX11_laysHull_69 rfl (lv_at hl 0 rfl) ?_
        refine xg_X11_91 C hP dX11_laysHull_70 ?_
        refine lv_iload_n hx hb dX11_laysHull_73 rfl (lv_at hl 2 rfl) ?_
        refine lv_aload_n hx hb dX11_laysHull_74 rfl (lv_at hl 0 rfl) ?_
        refine xg_X11_97 C hP dX11_laysHull_75 ?_
        refine lv_iload_n hx hb dX11_laysHull_78 rfl (lv_at hl 3 rfl) ?_
        replace hf := xsCk_use hf
        obtain ⟨h14, hf⟩ := hf
        refine xl_mEndX C hP h14 dX11_laysHull_79 ?_
        replace hf := xsCk_use hf
        obtain ⟨h15, hf⟩ := hf
        refine xs_mHullX C hP hD hS h15 dX11_laysHull_80 (fun f16 ef16 H locs hP hD hS => ?_)
        replace hf := xsLt_use ef16 hf
        refine lv_aload_n hx hb dX11_laysHull_81 rfl (lv_at hl 0 rfl) ?_
        refine xg_X11_94 C hP dX11_laysHull_82 ?_
        refine lv_iload_n hx hb dX11_laysHull_85 rfl (lv_at hl 2 rfl) ?_
        refine lv_aload_n hx hb dX11_laysHull_86 rfl (lv_at hl 0 rfl) ?_
        refine xg_X11_100 C hP dX11_laysHull_87 ?_
        refine lv_iload_n hx hb dX11_laysHull_90 rfl (lv_at hl 3 rfl) ?_
        replace hf := xsCk_use hf
        obtain ⟨h17, hf⟩ := hf
        refine xl_mEndY C hP h17 dX11_laysHull_91 ?_
        replace hf := xsCk_use hf
        obtain ⟨h18, hf⟩ := hf
        refine xs_mHullY C hP hD hS h18 dX11_laysHull_92 (fun f19 ef19 H locs hP hD hS => ?_)
        replace hf := xsLt_use ef19 hf
        obtain ⟨x20, ex20⟩ : ∃ y : Int32, y = y9 + (1 : Int32) := ⟨_, rfl⟩
        replace hf := xsLt_use ex20 hf
        refine lv_iinc (v := x20) (lv' := [(2, .int x20), (0, .ref (xsA X 100)), (1, .int y8), (3, .int y10)]) hx hb dX11_laysHull_93 hl (k := 2) rfl (by rw [ex20]; rfl) (by decide) rfl (fun ls hl => ?_)
        refine lv_iconst (v := (-1 : Int32)) hx hb dX11_laysHull_96 (by decide) ?_
        refine lv_istore (lv' := [(4, .int (-1 : Int32)), (2, .int x20), (0, .ref (xsA X 100)), (1, .int y8), (3, .int y10)]) hx hb dX11_laysHull_97 hl (by decide) rfl (fun ls hl => ?_)
        refine lv_iconst (v := (0 : Int32)) hx hb dX11_laysHull_99 (by decide) ?_
        refine lv_istore (lv' := [(5, .int (0 : Int32)), (4, .int (-1 : Int32)), (2, .int x20), (0, .ref (xsA X 100)), (1, .int y8), (3, .int y10)]) hx hb dX11_laysHull_100 hl (by decide) rfl (fun ls hl => ?_)
        have K23 : ∀ (y24 : Int32) (hf : fX11_laysHull_J187 o1 y8 f16 f19 x20 y24 = some u13) (H : Heap) (locs : List Loc) (ls : Array Slot), va_P (xsD X) vwCl (wM X mThrown mWorld mImage mDraft mEarlier mRemembered mHasImage mIsLaid mOne mTwo mShare mX mY mD mEventX mEventY mEventD mEvents mCrossingOf mBundle mEventOf mDegree mFrom mTo mCrossings mEdges mMet mUpper mLower mTape mTaped mPoint mEnd mBegin mFaultAt mFive mTold mActs mFar mViews f16 f19 o1.1 o1.2 mHeightUp mHeightLow mMeets mMeetsOf Rw) H → va_D (xsF X) (wM X mThrown mWorld mImage mDraft mEarlier mRemembered mHasImage mIsLaid mOne mTwo mShare mX mY mD mEventX mEventY mEventD mEvents mCrossingOf mBundle mEventOf mDegree mFrom mTo mCrossings mEdges mMet mUpper mLower mTape mTaped mPoint mEnd mBegin mFaultAt mFive mTold mActs mFar mViews f16 f19 o1.1 o1.2 mHeightUp mHeightLow mMeets mMeetsOf Rw) → va_S (xsF X) s.heap H locs → lv_has ls 6 [(0, .ref (xsA X 100)), (1, .int y8), (2, .int x20), (4, .int y24)] → W p l e { frames := 2, cells := 0, slots := 0, locals := 50 } s m ([.ref (xsA X 100)] : List Value).toArray below meth c H locs 0 0 (MQ below Qq ([.ref (xsA X 100)] : List Value).toArray s 0 0 (xsF X)) (F0 m 187 ls []) := by
          intro y24 hf H locs ls hP hD hS hl
          unfold fX11_laysHull_J187 at hf
          refine lv_iload hx hb dX11_laysHull_187 (lv_at hl 3 rfl) ?_
          refine lv_istore_n (lv' := [(3, .int y24), (0, .ref (xsA X 100)), (1, .int y8), (2, .int x20), (4, .int y24)]) hx hb dX11_laysHull_189 rfl hl (by decide) rfl (fun ls hl => ?_)
          refine lv_iload_n hx hb dX11_laysHull_190 rfl (lv_at hl 0 rfl) ?_
          refine lv_iconst (v := (-1 : Int32)) hx hb dX11_laysHull_191 (by decide) ?_
          refine lv_icmp_eq (tgt := 225) hx hb dX11_laysHull_192 (by decide) (fun c31 => ?_) (fun c31 => ?_)
          · replace hf := xsBr_t c31 hf
            refine lv_iload_n hx hb dX11_laysHull_225 rfl (lv_at hl 3 rfl) ?_
            have ez := hx13 _ (Option.some.inj hf).symm
            subst ez
            have hf := hk13
            have ho := Option.some.inj hf
            subst ho
            rw [hQq]
            exact xs_iret C hr hlk hP hD hS dX11_laysHull_226
          · replace hf := xsBr_f c31 hf
            refine lv_aload_n hx hb dX11_laysHull_195 rfl (lv_at hl 1 rfl) ?_
            refine xg_X11_97 C hP dX11_laysHull_196 ?_
            refine lv_iload_n hx hb dX11_laysHull_199 rfl (lv_at hl 0 rfl) ?_
            replace hf := xsCk_use hf
            obtain ⟨h25, hf⟩ := hf
            refine xl_mEndX C hP h25 dX11_laysHull_200 ?_
            refine lv_aload_n hx hb dX11_laysHull_201 rfl (lv_at hl 1 rfl) ?_
            refine xg_X11_97 C hP dX11_laysHull_202 ?_
            refine lv_iload_n hx hb dX11_laysHull_205 rfl (lv_at hl 2 rfl) ?_
            replace hf := xsCk_use hf
            obtain ⟨h26, hf⟩ := hf
            refine xl_mEndX C hP h26 dX11_laysHull_206 ?_
            refine lv_icmp_ne (tgt := 69) hx hb dX11_laysHull_207 (by decide) (fun c30 => ?_) (fun c30 => ?_)
            · replace hf := xsBr_f c30 hf
              exact ih13 _ (Option.some.inj hf).symm hk13 H locs ls hP hD hS (lv_sub hl [1, 2, 3, 0] rfl)
            · replace hf := xsBr_t c30 hf
              refine lv_aload_n hx hb dX11_laysHull_210 rfl (lv_at hl 1 rfl) ?_
              refine xg_X11_100 C hP dX11_laysHull_211 ?_
              refine lv_iload_n hx hb dX11_laysHull_214 rfl (lv_at hl 0 rfl) ?_
              replace hf := xsCk_use hf
              obtain ⟨h27, hf⟩ := hf
              refine xl_mEndY C hP h27 dX11_laysHull_215 ?_
              refine lv_aload_n hx hb dX11_laysHull_216 rfl (lv_at hl 1 rfl) ?_
              refine xg_X11_100 C hP dX11_laysHull_217 ?_
              refine lv_iload_n hx hb dX11_laysHull_220 rfl (lv_at hl 2 rfl) ?_
              replace hf := xsCk_use hf
              obtain ⟨h28, hf⟩ := hf
              refine xl_mEndY C hP h28 dX11_laysHull_221 ?_
              refine lv_icmp_ne (tgt := 69) hx hb dX11_laysHull_222 (by decide) (fun c29 => ?_) (fun c29 => ?_)
              · replace hf := xsBr_f c29 hf
                exact ih13 _ (Option.some.inj hf).symm hk13 H locs ls hP hD hS (lv_sub hl [1, 2, 3, 0] rfl)
              · replace hf := xsBr_t c29 hf
                refine lv_iload_n hx hb dX11_laysHull_225 rfl (lv_at hl 3 rfl) ?_
                have ez := hx13 _ (Option.some.inj hf).symm
                subst ez
                have hf := hk13
                have ho := Option.some.inj hf
                subst ho
                rw [hQq]
                exact xs_iret C hr hlk hP hD hS dX11_laysHull_226
        replace hf := xsBd_use hf
        obtain ⟨r23, hk230, hf⟩ := hf
        have L23 : ∀ (sg : Int32 × Int32) (rg : Int32), xsWh (fun s23 => fX11_laysHull_L102 mWorld o1 y10 s23.1 s23.2) sg = some rg → (fX11_laysHull_J187 o1 y8 f16 f19 x20 rg = some u13 → ∀ (H : Heap) (locs : List Loc) (ls : Array Slot), va_P (xsD X) vwCl (wM X mThrown mWorld mImage mDraft mEarlier mRemembered mHasImage mIsLaid mOne mTwo mShare mX mY mD mEventX mEventY mEventD mEvents mCrossingOf mBundle mEventOf mDegree mFrom mTo mCrossings mEdges mMet mUpper mLower mTape mTaped mPoint mEnd mBegin mFaultAt mFive mTold mActs mFar mViews f16 f19 o1.1 o1.2 mHeightUp mHeightLow mMeets mMeetsOf Rw) H → va_D (xsF X) (wM X mThrown mWorld mImage mDraft mEarlier mRemembered mHasImage mIsLaid mOne mTwo mShare mX mY mD mEventX mEventY mEventD mEvents mCrossingOf mBundle mEventOf mDegree mFrom mTo mCrossings mEdges mMet mUpper mLower mTape mTaped mPoint mEnd mBegin mFaultAt mFive mTold mActs mFar mViews f16 f19 o1.1 o1.2 mHeightUp mHeightLow mMeets mMeetsOf Rw) → va_S (xsF X) s.heap H locs → lv_has ls 6 [(0, .ref (xsA X 100)), (1, .int y8), (2, .int x20), (3, .int y10), (4, .int sg.1), (5, .int sg.2)] → W p l e { frames := 2, cells := 0, slots := 0, locals := 50 } s m ([.ref (xsA X 100)] : List Value).toArray below meth c H locs 0 0 (MQ below Qq ([.ref (xsA X 100)] : List Value).toArray s 0 0 (xsF X)) (F0 m 102 ls [])) := by
          refine xsWh_ind ?_
          intro sg r23 u23 hf ih23 hx23 hk23 H locs ls hP hD hS hl
          obtain ⟨y21, y22⟩ := sg
          replace hf : fX11_laysHull_L102 mWorld o1 y10 y21 y22 = some u23 := hf
          replace hl : lv_has ls 6 [(0, .ref (xsA X 100)), (1, .int y8), (2, .int x20), (3, .int y10), (4, .int y21), (5, .int y22)] := hl
          replace hP : va_P (xsD X) vwCl (wM X mThrown mWorld mImage mDraft mEarlier mRemembered mHasImage mIsLaid mOne mTwo mShare mX mY mD mEventX mEventY mEventD mEvents mCrossingOf mBundle mEventOf mDegree mFrom mTo mCrossings mEdges mMet mUpper mLower mTape mTaped mPoint mEnd mBegin mFaultAt mFive mTold mActs mFar mViews f16 f19 o1.1 o1.2 mHeightUp mHeightLow mMeets mMeetsOf Rw) H := hP
          replace hD : va_D (xsF X) (wM X mThrown mWorld mImage mDraft mEarlier mRemembered mHasImage mIsLaid mOne mTwo mShare mX mY mD mEventX mEventY mEventD mEvents mCrossingOf mBundle mEventOf mDegree mFrom mTo mCrossings mEdges mMet mUpper mLower mTape mTaped mPoint mEnd mBegin mFaultAt mFive mTold mActs mFar mViews f16 f19 o1.1 o1.2 mHeightUp mHeightLow mMeets mMeetsOf Rw) := hD
          unfold fX11_laysHull_L102 at hf
          refine lv_iload hx hb dX11_laysHull_102 (lv_at hl 5 rfl) ?_
          refine lv_iconst (v := (2 : Int32)) hx hb dX11_laysHull_104 (by decide) ?_
          refine lv_aload_n hx hb dX11_laysHull_105 rfl (lv_at hl 0 rfl) ?_
          replace hf := xsBd_use hf
          obtain ⟨o32, h33, hf⟩ := hf
          refine xs_calli hS (xs_runV (As := []) C (mX11_many l  h33) w_1581 w_1583 w_44 w_115 w_1584 hd_X11_many ⟨rfl, rfl, Nat.le_of_ble_eq_true rfl, Nat.le_of_ble_eq_true rfl, Nat.zero_le _, Nat.zero_le _⟩ hP hD hS lk_X11 rfl hl.1 rfl (Nat.le_of_ble_eq_true rfl) dX11_laysHull_106) (fun H locs hP hD hS => ?_)
          refine lv_imul hx hb dX11_laysHull_109 ?_
          refine lv_icmp_ge (tgt := 187) hx hb dX11_laysHull_110 (by decide) (fun c52 => ?_) (fun c52 => ?_)
          · replace hf := xsBr_t c52 hf
            have ez := hx23 _ (Option.some.inj hf).symm
            subst ez
            exact K23 y21 hk23 H locs ls hP hD hS (lv_sub hl [0, 1, 2, 4] rfl)
          · replace hf := xsBr_f c52 hf
            refine lv_aload_n hx hb dX11_laysHull_113 rfl (lv_at hl 0 rfl) ?_
            refine xg_X11_97 C hP dX11_laysHull_114 ?_
            refine lv_iload hx hb dX11_laysHull_117 (lv_at hl 5 rfl) ?_
            replace hf := xsCk_use hf
            obtain ⟨h34, hf⟩ := hf
            refine xl_mEndX C hP h34 dX11_laysHull_119 ?_
            refine lv_aload_n hx hb dX11_laysHull_120 rfl (lv_at hl 0 rfl) ?_
            refine xg_X11_97 C hP dX11_laysHull_121 ?_
            refine lv_iload_n hx hb dX11_laysHull_124 rfl (lv_at hl 3 rfl) ?_
            replace hf := xsCk_use hf
            obtain ⟨h35, hf⟩ := hf
            refine xl_mEndX C hP h35 dX11_laysHull_125 ?_
            have K40 : ∀ (y36 : Int32) (hf : fX11_laysHull_J181 y22 y36 = some u23) (H : Heap) (locs : List Loc) (ls : Array Slot), va_P (xsD X) vwCl (wM X mThrown mWorld mImage mDraft mEarlier mRemembered mHasImage mIsLaid mOne mTwo mShare mX mY mD mEventX mEventY mEventD mEvents mCrossingOf mBundle mEventOf mDegree mFrom mTo mCrossings mEdges mMet mUpper mLower mTape mTaped mPoint mEnd mBegin mFaultAt mFive mTold mActs mFar mViews f16 f19 o1.1 o1.2 mHeightUp mHeightLow mMeets mMeetsOf Rw) H → va_D (xsF X) (wM X mThrown mWorld mImage mDraft mEarlier mRemembered mHasImage mIsLaid mOne mTwo mShare mX mY mD mEventX mEventY mEventD mEvents mCrossingOf mBundle mEventOf mDegree mFrom mTo mCrossings mEdges mMet mUpper mLower mTape mTaped mPoint mEnd mBegin mFaultAt mFive mTold mActs mFar mViews f16 f19 o1.1 o1.2 mHeightUp mHeightLow mMeets mMeetsOf Rw) → va_S (xsF X) s.heap H locs → lv_has ls 6 [(0, .ref (xsA X 100)), (1, .int y8), (2, .int x20), (3, .int y10), (4, .int y36), (5, .int y22)] → W p l e { frames := 2, cells := 0, slots := 0, locals := 50 } s m ([.ref (xsA X 100)] : List Value).toArray below meth c H locs 0 0 (MQ below Qq ([.ref (xsA X 100)] : List Value).toArray s 0 0 (xsF X)) (F0 m 181 ls []) := by
              intro y36 hf H locs ls hP hD hS hl
              unfold fX11_laysHull_J181 at hf
              obtain ⟨x37, ex37⟩ : ∃ y : Int32, y = y22 + (1 : Int32) := ⟨_, rfl⟩
              replace hf := xsLt_use ex37 hf
              refine lv_iinc (v := x37) (lv' := [(5, .int x37), (0, .ref (xsA X 100)), (1, .int y8), (2, .int x20), (3, .int y10), (4, .int y36)]) hx hb dX11_laysHull_181 hl (k := 5) rfl (by rw [ex37]; rfl) (by decide) rfl (fun ls hl => ?_)
              refine lv_goto (tgt := 102) hx hb dX11_laysHull_184 (by decide) ?_
              exact ih23 _ (Option.some.inj hf).symm hk23 H locs ls hP hD hS (lv_sub hl [1, 2, 3, 4, 5, 0] rfl)
            replace hf := xsBd_use hf
            obtain ⟨v38, hf, hk39⟩ := hf
            have K47 : ∀ (hf : fX11_laysHull_J148 o1 y10 y21 y22 = some v38) (H : Heap) (locs : List Loc) (ls : Array Slot), va_P (xsD X) vwCl (wM X mThrown mWorld mImage mDraft mEarlier mRemembered mHasImage mIsLaid mOne mTwo mShare mX mY mD mEventX mEventY mEventD mEvents mCrossingOf mBundle mEventOf mDegree mFrom mTo mCrossings mEdges mMet mUpper mLower mTape mTaped mPoint mEnd mBegin mFaultAt mFive mTold mActs mFar mViews f16 f19 o1.1 o1.2 mHeightUp mHeightLow mMeets mMeetsOf Rw) H → va_D (xsF X) (wM X mThrown mWorld mImage mDraft mEarlier mRemembered mHasImage mIsLaid mOne mTwo mShare mX mY mD mEventX mEventY mEventD mEvents mCrossingOf mBundle mEventOf mDegree mFrom mTo mCrossings mEdges mMet mUpper mLower mTape mTaped mPoint mEnd mBegin mFaultAt mFive mTold mActs mFar mViews f16 f19 o1.1 o1.2 mHeightUp mHeightLow mMeets mMeetsOf Rw) → va_S (xsF X) s.heap H locs → lv_has ls 6 [(0, .ref (xsA X 100)), (1, .int y8), (2, .int x20), (3, .int y10), (4, .int y21), (5, .int y22)] → W p l e { frames := 2, cells := 0, slots := 0, locals := 50 } s m ([.ref (xsA X 100)] : List Value).toArray below meth c H locs 0 0 (MQ below Qq ([.ref (xsA X 100)] : List Value).toArray s 0 0 (xsF X)) (F0 m 148 ls []) := by
              intro hf H locs ls hP hD hS hl
              unfold fX11_laysHull_J148 at hf
              refine lv_iload hx hb dX11_laysHull_148 (lv_at hl 4 rfl) ?_
              refine lv_iconst (v := (-1 : Int32)) hx hb dX11_laysHull_150 (by decide) ?_
              refine lv_icmp_eq (tgt := 177) hx hb dX11_laysHull_151 (by decide) (fun c46 => ?_) (fun c46 => ?_)
              · replace hf := xsBr_t c46 hf
                refine lv_iload hx hb dX11_laysHull_177 (lv_at hl 5 rfl) ?_
                refine lv_istore (lv' := [(4, .int y22), (0, .ref (xsA X 100)), (1, .int y8), (2, .int x20), (3, .int y10), (5, .int y22)]) hx hb dX11_laysHull_179 hl (by decide) rfl (fun ls hl => ?_)
                have ev := Option.some.inj hf
                subst ev
                exact K40 y22 hk39 H locs ls hP hD hS (lv_sub hl [1, 2, 3, 4, 0, 5] rfl)
              · replace hf := xsBr_f c46 hf
                refine lv_aload_n hx hb dX11_laysHull_154 rfl (lv_at hl 0 rfl) ?_
                refine lv_aload_n hx hb dX11_laysHull_155 rfl (lv_at hl 0 rfl) ?_
                refine xg_X11_97 C hP dX11_laysHull_156 ?_
                refine lv_iload_n hx hb dX11_laysHull_159 rfl (lv_at hl 3 rfl) ?_
                replace hf := xsCk_use hf
                obtain ⟨h41, hf⟩ := hf
                refine xl_mEndX C hP h41 dX11_laysHull_160 ?_
                refine lv_aload_n hx hb dX11_laysHull_161 rfl (lv_at hl 0 rfl) ?_
                refine xg_X11_100 C hP dX11_laysHull_162 ?_
                refine lv_iload_n hx hb dX11_laysHull_165 rfl (lv_at hl 3 rfl) ?_
                replace hf := xsCk_use hf
                obtain ⟨h42, hf⟩ := hf
                refine xl_mEndY C hP h42 dX11_laysHull_166 ?_
                refine lv_iload hx hb dX11_laysHull_167 (lv_at hl 4 rfl) ?_
                refine lv_iload hx hb dX11_laysHull_169 (lv_at hl 5 rfl) ?_
                replace hf := xsBd_use hf
                obtain ⟨o43, h44, hf⟩ := hf
                refine xs_calli hS (xs_runV (As := [.int (o1.1 y10.toNatClampNeg), .int (o1.2 y10.toNatClampNeg), .int y21, .int y22]) C (mX11_isFurther l  h44) w_1879 w_1881 w_90 w_115 w_1882 hd_X11_isFurther ⟨rfl, rfl, Nat.le_of_ble_eq_true rfl, Nat.le_of_ble_eq_true rfl, Nat.zero_le _, Nat.zero_le _⟩ hP hD hS lk_X11 rfl hl.1 rfl (Nat.le_of_ble_eq_true rfl) dX11_laysHull_171) (fun H locs hP hD hS => ?_)
                refine lv_if_eq (tgt := 181) hx hb dX11_laysHull_174 (by decide) (fun c45 => ?_) (fun c45 => ?_)
                · replace hf := xsBr_t c45 hf
                  have ev := Option.some.inj hf
                  subst ev
                  exact K40 y21 hk39 H locs ls hP hD hS (lv_sub hl [0, 1, 2, 3, 4, 5] rfl)
                · replace hf := xsBr_f c45 hf
                  refine lv_iload hx hb dX11_laysHull_177 (lv_at hl 5 rfl) ?_
                  refine lv_istore (lv' := [(4, .int y22), (0, .ref (xsA X 100)), (1, .int y8), (2, .int x20), (3, .int y10), (5, .int y22)]) hx hb dX11_laysHull_179 hl (by decide) rfl (fun ls hl => ?_)
                  have ev := Option.some.inj hf
                  subst ev
                  exact K40 y22 hk39 H locs ls hP hD hS (lv_sub hl [1, 2, 3, 4, 0, 5] rfl)
            refine lv_icmp_ne (tgt := 148) hx hb dX11_laysHull_126 (by decide) (fun c51 => ?_) (fun c51 => ?_)
            · replace hf := xsBr_f c51 hf
              exact K47 hf H locs ls hP hD hS (lv_sub hl [0, 1, 2, 3, 4, 5] rfl)
            · replace hf := xsBr_t c51 hf
              refine lv_aload_n hx hb dX11_laysHull_129 rfl (lv_at hl 0 rfl) ?_
              refine xg_X11_100 C hP dX11_laysHull_130 ?_
              refine lv_iload hx hb dX11_laysHull_133 (lv_at hl 5 rfl) ?_
              replace hf := xsCk_use hf
              obtain ⟨h48, hf⟩ := hf
              refine xl_mEndY C hP h48 dX11_laysHull_135 ?_
              refine lv_aload_n hx hb dX11_laysHull_136 rfl (lv_at hl 0 rfl) ?_
              refine xg_X11_100 C hP dX11_laysHull_137 ?_
              refine lv_iload_n hx hb dX11_laysHull_140 rfl (lv_at hl 3 rfl) ?_
              replace hf := xsCk_use hf
              obtain ⟨h49, hf⟩ := hf
              refine xl_mEndY C hP h49 dX11_laysHull_141 ?_
              refine lv_icmp_ne (tgt := 148) hx hb dX11_laysHull_142 (by decide) (fun c50 => ?_) (fun c50 => ?_)
              · replace hf := xsBr_f c50 hf
                exact K47 hf H locs ls hP hD hS (lv_sub hl [0, 1, 2, 3, 4, 5] rfl)
              · replace hf := xsBr_t c50 hf
                refine lv_goto (tgt := 181) hx hb dX11_laysHull_145 (by decide) ?_
                have ev := Option.some.inj hf
                subst ev
                exact K40 y21 hk39 H locs ls hP hD hS (lv_sub hl [0, 1, 2, 3, 4, 5] rfl)
        exact L23 ((-1 : Int32), (0 : Int32)) r23 hk230 hf H locs ls hP hD hS (lv_sub hl [3, 4, 2, 5, 1, 0] rfl)
      exact L13 ((0 : Int32), y8, mHullX, mHullY) _ hf rfl H locs ls hP hD hS (lv_sub hl [2, 3, 1, 0] rfl)
    replace hf := xsBd_use hf
    obtain ⟨r7, hk70, hf⟩ := hf
    have L7 : ∀ (sg : Int32 × Int32) (rg : Int32), xsWh (fun s7 => fX11_laysHull_L17 mWorld o1 s7.1 s7.2) sg = some rg → (fX11_laysHull_J65 mWorld mHullX mHullY o1 rg = some out → ∀ (H : Heap) (locs : List Loc) (ls : Array Slot), va_P (xsD X) vwCl (wM X mThrown mWorld mImage mDraft mEarlier mRemembered mHasImage mIsLaid mOne mTwo mShare mX mY mD mEventX mEventY mEventD mEvents mCrossingOf mBundle mEventOf mDegree mFrom mTo mCrossings mEdges mMet mUpper mLower mTape mTaped mPoint mEnd mBegin mFaultAt mFive mTold mActs mFar mViews mHullX mHullY o1.1 o1.2 mHeightUp mHeightLow mMeets mMeetsOf Rw) H → va_D (xsF X) (wM X mThrown mWorld mImage mDraft mEarlier mRemembered mHasImage mIsLaid mOne mTwo mShare mX mY mD mEventX mEventY mEventD mEvents mCrossingOf mBundle mEventOf mDegree mFrom mTo mCrossings mEdges mMet mUpper mLower mTape mTaped mPoint mEnd mBegin mFaultAt mFive mTold mActs mFar mViews mHullX mHullY o1.1 o1.2 mHeightUp mHeightLow mMeets mMeetsOf Rw) → va_S (xsF X) s.heap H locs → lv_has ls 6 [(0, .ref (xsA X 100)), (1, .int sg.1), (2, .int sg.2)] → W p l e { frames := 2, cells := 0, slots := 0, locals := 50 } s m ([.ref (xsA X 100)] : List Value).toArray below meth c H locs 0 0 (MQ below Qq ([.ref (xsA X 100)] : List Value).toArray s 0 0 (xsF X)) (F0 m 17 ls [])) := by
      refine xsWh_ind ?_
      intro sg r7 u7 hf ih7 hx7 hk7 H locs ls hP hD hS hl
      obtain ⟨y5, y6⟩ := sg
      replace hf : fX11_laysHull_L17 mWorld o1 y5 y6 = some u7 := hf
      replace hl : lv_has ls 6 [(0, .ref (xsA X 100)), (1, .int y5), (2, .int y6)] := hl
      replace hP : va_P (xsD X) vwCl (wM X mThrown mWorld mImage mDraft mEarlier mRemembered mHasImage mIsLaid mOne mTwo mShare mX mY mD mEventX mEventY mEventD mEvents mCrossingOf mBundle mEventOf mDegree mFrom mTo mCrossings mEdges mMet mUpper mLower mTape mTaped mPoint mEnd mBegin mFaultAt mFive mTold mActs mFar mViews mHullX mHullY o1.1 o1.2 mHeightUp mHeightLow mMeets mMeetsOf Rw) H := hP
      replace hD : va_D (xsF X) (wM X mThrown mWorld mImage mDraft mEarlier mRemembered mHasImage mIsLaid mOne mTwo mShare mX mY mD mEventX mEventY mEventD mEvents mCrossingOf mBundle mEventOf mDegree mFrom mTo mCrossings mEdges mMet mUpper mLower mTape mTaped mPoint mEnd mBegin mFaultAt mFive mTold mActs mFar mViews mHullX mHullY o1.1 o1.2 mHeightUp mHeightLow mMeets mMeetsOf Rw) := hD
      unfold fX11_laysHull_L17 at hf
      refine lv_iload_n hx hb dX11_laysHull_17 rfl (lv_at hl 2 rfl) ?_
      refine lv_iconst (v := (2 : Int32)) hx hb dX11_laysHull_18 (by decide) ?_
      refine lv_aload_n hx hb dX11_laysHull_19 rfl (lv_at hl 0 rfl) ?_
      replace hf := xsBd_use hf
      obtain ⟨o53, h54, hf⟩ := hf
      refine xs_calli hS (xs_runV (As := []) C (mX11_many l  h54) w_1581 w_1583 w_44 w_115 w_1584 hd_X11_many ⟨rfl, rfl, Nat.le_of_ble_eq_true rfl, Nat.le_of_ble_eq_true rfl, Nat.zero_le _, Nat.zero_le _⟩ hP hD hS lk_X11 rfl hl.1 rfl (Nat.le_of_ble_eq_true rfl) dX11_laysHull_20) (fun H locs hP hD hS => ?_)
      refine lv_imul hx hb dX11_laysHull_23 ?_
      refine lv_icmp_ge (tgt := 65) hx hb dX11_laysHull_24 (by decide) (fun c67 => ?_) (fun c67 => ?_)
      · replace hf := xsBr_t c67 hf
        have ez := hx7 _ (Option.some.inj hf).symm
        subst ez
        exact K7 y5 hk7 H locs ls hP hD hS (lv_sub hl [0, 1] rfl)
      · replace hf := xsBr_f c67 hf
        refine lv_aload_n hx hb dX11_laysHull_27 rfl (lv_at hl 0 rfl) ?_
        refine xg_X11_97 C hP dX11_laysHull_28 ?_
        refine lv_iload_n hx hb dX11_laysHull_31 rfl (lv_at hl 2 rfl) ?_
        replace hf := xsCk_use hf
        obtain ⟨h55, hf⟩ := hf
        refine xl_mEndX C hP h55 dX11_laysHull_32 ?_
        refine lv_aload_n hx hb dX11_laysHull_33 rfl (lv_at hl 0 rfl) ?_
        refine xg_X11_100 C hP dX11_laysHull_34 ?_
        refine lv_iload_n hx hb dX11_laysHull_37 rfl (lv_at hl 2 rfl) ?_
        replace hf := xsCk_use hf
        obtain ⟨h56, hf⟩ := hf
        refine xl_mEndY C hP h56 dX11_laysHull_38 ?_
        refine lv_aload_n hx hb dX11_laysHull_39 rfl (lv_at hl 0 rfl) ?_
        refine xg_X11_97 C hP dX11_laysHull_40 ?_
        refine lv_iload_n hx hb dX11_laysHull_43 rfl (lv_at hl 1 rfl) ?_
        replace hf := xsCk_use hf
        obtain ⟨h57, hf⟩ := hf
        refine xl_mEndX C hP h57 dX11_laysHull_44 ?_
        refine lv_aload_n hx hb dX11_laysHull_45 rfl (lv_at hl 0 rfl) ?_
        refine xg_X11_100 C hP dX11_laysHull_46 ?_
        refine lv_iload_n hx hb dX11_laysHull_49 rfl (lv_at hl 1 rfl) ?_
        replace hf := xsCk_use hf
        obtain ⟨h58, hf⟩ := hf
        refine xl_mEndY C hP h58 dX11_laysHull_50 ?_
        replace hf := xsBd_use hf
        obtain ⟨o59, h60, hf⟩ := hf
        refine xs_calli hS (xs_runS (As := [.int (o1.1 y6.toNatClampNeg), .int (o1.2 y6.toNatClampNeg), .int (o1.1 y5.toNatClampNeg), .int (o1.2 y5.toNatClampNeg)]) C (mX11_isAhead l  h60) w_1688 w_1689 w_115 w_1690 hd_X11_isAhead ⟨rfl, rfl, Nat.le_of_ble_eq_true rfl, Nat.le_of_ble_eq_true rfl, Nat.zero_le _, Nat.zero_le _⟩ hP hD hS hl.1 rfl (Nat.le_of_ble_eq_true rfl) dX11_laysHull_51) (fun H locs hP hD hS => ?_)
        have K65 : ∀ (y61 : Int32) (hf : fX11_laysHull_J59 y6 y61 = some u7) (H : Heap) (locs : List Loc) (ls : Array Slot), va_P (xsD X) vwCl (wM X mThrown mWorld mImage mDraft mEarlier mRemembered mHasImage mIsLaid mOne mTwo mShare mX mY mD mEventX mEventY mEventD mEvents mCrossingOf mBundle mEventOf mDegree mFrom mTo mCrossings mEdges mMet mUpper mLower mTape mTaped mPoint mEnd mBegin mFaultAt mFive mTold mActs mFar mViews mHullX mHullY o1.1 o1.2 mHeightUp mHeightLow mMeets mMeetsOf Rw) H → va_D (xsF X) (wM X mThrown mWorld mImage mDraft mEarlier mRemembered mHasImage mIsLaid mOne mTwo mShare mX mY mD mEventX mEventY mEventD mEvents mCrossingOf mBundle mEventOf mDegree mFrom mTo mCrossings mEdges mMet mUpper mLower mTape mTaped mPoint mEnd mBegin mFaultAt mFive mTold mActs mFar mViews mHullX mHullY o1.1 o1.2 mHeightUp mHeightLow mMeets mMeetsOf Rw) → va_S (xsF X) s.heap H locs → lv_has ls 6 [(0, .ref (xsA X 100)), (1, .int y61), (2, .int y6)] → W p l e { frames := 2, cells := 0, slots := 0, locals := 50 } s m ([.ref (xsA X 100)] : List Value).toArray below meth c H locs 0 0 (MQ below Qq ([.ref (xsA X 100)] : List Value).toArray s 0 0 (xsF X)) (F0 m 59 ls []) := by
          intro y61 hf H locs ls hP hD hS hl
          unfold fX11_laysHull_J59 at hf
          obtain ⟨x62, ex62⟩ : ∃ y : Int32, y = y6 + (1 : Int32) := ⟨_, rfl⟩
          replace hf := xsLt_use ex62 hf
          refine lv_iinc (v := x62) (lv' := [(2, .int x62), (0, .ref (xsA X 100)), (1, .int y61)]) hx hb dX11_laysHull_59 hl (k := 2) rfl (by rw [ex62]; rfl) (by decide) rfl (fun ls hl => ?_)
          refine lv_goto (tgt := 17) hx hb dX11_laysHull_62 (by decide) ?_
          exact ih7 _ (Option.some.inj hf).symm hk7 H locs ls hP hD hS (lv_sub hl [1, 2, 0] rfl)
        replace hf := xsBd_use hf
        obtain ⟨v63, hf, hk64⟩ := hf
        refine lv_if_eq (tgt := 59) hx hb dX11_laysHull_54 (by decide) (fun c66 => ?_) (fun c66 => ?_)
        · replace hf := xsBr_t c66 hf
          have ev := Option.some.inj hf
          subst ev
          exact K65 y5 hk64 H locs ls hP hD hS (lv_sub hl [0, 1, 2] rfl)
        · replace hf := xsBr_f c66 hf
          refine lv_iload_n hx hb dX11_laysHull_57 rfl (lv_at hl 2 rfl) ?_
          refine lv_istore_n (lv' := [(1, .int y6), (0, .ref (xsA X 100)), (2, .int y6)]) hx hb dX11_laysHull_58 rfl hl (by decide) rfl (fun ls hl => ?_)
          have ev := Option.some.inj hf
          subst ev
          exact K65 y6 hk64 H locs ls hP hD hS (lv_sub hl [1, 0, 2] rfl)
    exact L7 ((0 : Int32), (1 : Int32)) r7 hk70 hf H locs ls hP hD hS (lv_sub hl [2, 1, 0] rfl)
  · replace hf := xsBr_t c68 hf
    refine lv_iconst (v := (0 : Int32)) hx hb dX11_laysHull_11 (by decide) ?_
    have ho := Option.some.inj hf
    subst ho
    rw [hQq]
    exact xs_iret C hr hlk hP hD hS dX11_laysHull_12
set_option maxRecDepth 100000 in
set_option maxHeartbeats 8000000 in
theorem mX11_hull (l : Launch) {X : xsX} {mThrown mRemembered mHasImage mIsLaid mEvents mCrossings mEdges mTaped mPoint mEnd mBegin mFaultAt mActs : Int32} {mWorld mImage mDraft mEarlier mOne mTwo mShare mCrossingOf mBundle mEventOf mDegree mFrom mTo mMet mTape mFive mTold mFar mViews mHullX mHullY mEndX mEndY mMeets mMeetsOf : Nat → Int32} {mX mY mD mHeightUp mHeightLow : Int64} {mEventX mEventY mEventD mUpper mLower : Nat → Int64} {Rw : va_W} {a0 : Int32} {a1 : Int32} {out : Int32 × Int32 × (Nat → Int32) × (Nat → Int32) × (Nat → Int32) × (Nat → Int32)} (hf : fX11_hull mThrown mWorld mHullX mHullY mEndX mEndY a0 a1 = some out) : Met l yX11_hull (xsWs yX11_hull cX11_hull 3 (some .int)) { frames := 3, cells := 0, slots := 0, locals := 75 } (xsP X (wM X mThrown mWorld mImage mDraft mEarlier mRemembered mHasImage mIsLaid mOne mTwo mShare mX mY mD mEventX mEventY mEventD mEvents mCrossingOf mBundle mEventOf mDegree mFrom mTo mCrossings mEdges mMet mUpper mLower mTape mTaped mPoint mEnd mBegin mFaultAt mFive mTold mActs mFar mViews mHullX mHullY mEndX mEndY mHeightUp mHeightLow mMeets mMeetsOf Rw) [.ref (xsA X 100), .int a0, .int a1]) (xsQi X out.1 (wM X out.2.1 mWorld mImage mDraft mEarlier mRemembered mHasImage mIsLaid mOne mTwo mShare mX mY mD mEventX mEventY mEventD mEvents mCrossingOf mBundle mEventOf mDegree mFrom mTo mCrossings mEdges mMet mUpper mLower mTape mTaped mPoint mEnd mBegin mFaultAt mFive mTold mActs mFar mViews out.2.2.1 out.2.2.2.1 out.2.2.2.2.1 out.2.2.2.2.2 mHeightUp mHeightLow mMeets mMeetsOf Rw)) 0 0 (xsF X) := by
  refine xs_meth RX11 (by decide) rfl (Nat.le_of_ble_eq_true rfl) ?_
  intro p e s m below meth c ls H locs C hP hD hS hr hlk hl
  have hx := C.1
  have hb := C.2.1
  have hl : lv_has ls 3 [(0, .ref (xsA X 100)), (1, .int a0), (2, .int a1)] := hl
  obtain ⟨Qq, hQq⟩ : ∃ Qq, Qq = xsQi X out.1 (wM X out.2.1 mWorld mImage mDraft mEarlier mRemembered mHasImage mIsLaid mOne mTwo mShare mX mY mD mEventX mEventY mEventD mEvents mCrossingOf mBundle mEventOf mDegree mFrom mTo mCrossings mEdges mMet mUpper mLower mTape mTaped mPoint mEnd mBegin mFaultAt mFive mTold mActs mFar mViews out.2.2.1 out.2.2.2.1 out.2.2.2.2.1 out.2.2.2.2.2 mHeightUp mHeightLow mMeets mMeetsOf Rw) := ⟨_, rfl⟩
  rw [← hQq]
  unfold fX11_hull at hf
  refine lv_aload_n hx hb dX11_hull_0 rfl (lv_at hl 0 rfl) ?_
  refine lv_iconst (v := (0 : Int32)) hx hb dX11_hull_1 (by decide) ?_
  refine xp_X11_3 C hP hD hS dX11_hull_2 (fun H locs hP hD hS => ?_)
  refine lv_aload_n hx hb dX11_hull_5 rfl (lv_at hl 0 rfl) ?_
  refine lv_iload_n hx hb dX11_hull_6 rfl (lv_at hl 1 rfl) ?_
  refine lv_i2l hx hb dX11_hull_7 rfl ?_
  refine lv_lconst (v := (0 : Int64)) hx hb dX11_hull_8 (by decide) ?_
  refine lv_aload_n hx hb dX11_hull_9 rfl (lv_at hl 0 rfl) ?_
  replace hf := xsBd_use hf
  obtain ⟨o1, h2, hf⟩ := hf
  refine xs_calli hS (xs_runV (As := []) C (mX11_laysHull l  h2) w_1871 w_1873 w_88 w_115 w_1874 hd_X11_laysHull ⟨rfl, rfl, Nat.le_of_ble_eq_true rfl, Nat.le_of_ble_eq_true rfl, Nat.zero_le _, Nat.zero_le _⟩ hP hD hS lk_X11 rfl hl.1 rfl (Nat.le_of_ble_eq_true rfl) dX11_hull_10) (fun H locs hP hD hS => ?_)
  refine lv_iconst (v := (1 : Int32)) hx hb dX11_hull_13 (by decide) ?_
  refine lv_isub hx hb dX11_hull_14 ?_
  refine lv_i2l hx hb dX11_hull_15 rfl ?_
  replace hf := xsBd_use hf
  obtain ⟨o3, h4, hf⟩ := hf
  refine xs_calli hS (xs_runS (As := [.long a0.toInt64, .long (0 : Int64), .long (o1.1 - (1 : Int32)).toInt64]) C (mX11_in l  h4) w_1573 w_1574 w_115 w_1575 hd_X11_in ⟨rfl, rfl, Nat.le_of_ble_eq_true rfl, Nat.le_of_ble_eq_true rfl, Nat.zero_le _, Nat.zero_le _⟩ hP hD hS hl.1 rfl (Nat.le_of_ble_eq_true rfl) dX11_hull_16) (fun H locs hP hD hS => ?_)
  have K14 : ∀ (y5 : Int32) (hf : fX11_hull_J27 a0 a1 o1 y5 = some out) (H : Heap) (locs : List Loc) (ls : Array Slot), va_P (xsD X) vwCl (wM X (0 : Int32) mWorld mImage mDraft mEarlier mRemembered mHasImage mIsLaid mOne mTwo mShare mX mY mD mEventX mEventY mEventD mEvents mCrossingOf mBundle mEventOf mDegree mFrom mTo mCrossings mEdges mMet mUpper mLower mTape mTaped mPoint mEnd mBegin mFaultAt mFive mTold mActs mFar mViews o1.2.1 o1.2.2.1 o1.2.2.2.1 o1.2.2.2.2 mHeightUp mHeightLow mMeets mMeetsOf Rw) H → va_D (xsF X) (wM X (0 : Int32) mWorld mImage mDraft mEarlier mRemembered mHasImage mIsLaid mOne mTwo mShare mX mY mD mEventX mEventY mEventD mEvents mCrossingOf mBundle mEventOf mDegree mFrom mTo mCrossings mEdges mMet mUpper mLower mTape mTaped mPoint mEnd mBegin mFaultAt mFive mTold mActs mFar mViews o1.2.1 o1.2.2.1 o1.2.2.2.1 o1.2.2.2.2 mHeightUp mHeightLow mMeets mMeetsOf Rw) → va_S (xsF X) s.heap H locs → lv_has ls 3 [(0, .ref (xsA X 100)), (1, .int a0), (2, .int a1)] → W p l e { frames := 3, cells := 0, slots := 0, locals := 75 } s m ([.ref (xsA X 100), .int a0, .int a1] : List Value).toArray below meth c H locs 0 0 (MQ below Qq ([.ref (xsA X 100), .int a0, .int a1] : List Value).toArray s 0 0 (xsF X)) (F0 m 27 ls [.int y5, .ref (xsA X 100)]) := by
    intro y5 hf H locs ls hP hD hS hl
    unfold fX11_hull_J27 at hf
    refine lv_iconst (v := (1 : Int32)) hx hb dX11_hull_27 (by decide) ?_
    replace hf := xsBd_use hf
    obtain ⟨o6, h7, hf⟩ := hf
    refine xs_calli hS (xs_runV (As := [.int y5, .int (1 : Int32)]) C (mX11_throwsIf l  h7) w_1502 w_1504 w_33 w_115 w_1505 hd_X11_throwsIf ⟨rfl, rfl, Nat.le_of_ble_eq_true rfl, Nat.le_of_ble_eq_true rfl, Nat.zero_le _, Nat.zero_le _⟩ hP hD hS lk_X11 rfl hl.1 rfl (Nat.le_of_ble_eq_true rfl) dX11_hull_28) (fun H locs hP hD hS => ?_)
    refine lv_if_eq (tgt := 38) hx hb dX11_hull_31 (by decide) (fun c11 => ?_) (fun c11 => ?_)
    · replace hf := xsBr_t c11 hf
      refine lv_iload_n hx hb dX11_hull_38 rfl (lv_at hl 2 rfl) ?_
      refine lv_if_eq (tgt := 51) hx hb dX11_hull_39 (by decide) (fun c10 => ?_) (fun c10 => ?_)
      · replace hf := xsBr_t c10 hf
        refine lv_aload_n hx hb dX11_hull_51 rfl (lv_at hl 0 rfl) ?_
        refine xg_X11_91 C hP dX11_hull_52 ?_
        refine lv_iload_n hx hb dX11_hull_55 rfl (lv_at hl 1 rfl) ?_
        replace hf := xsCk_use hf
        obtain ⟨h8, hf⟩ := hf
        refine xl_mHullX C hP h8 dX11_hull_56 ?_
        have ho := Option.some.inj hf
        subst ho
        rw [hQq]
        exact xs_iret C hr hlk hP hD hS dX11_hull_57
      · replace hf := xsBr_f c10 hf
        refine lv_aload_n hx hb dX11_hull_42 rfl (lv_at hl 0 rfl) ?_
        refine xg_X11_94 C hP dX11_hull_43 ?_
        refine lv_iload_n hx hb dX11_hull_46 rfl (lv_at hl 1 rfl) ?_
        replace hf := xsCk_use hf
        obtain ⟨h9, hf⟩ := hf
        refine xl_mHullY C hP h9 dX11_hull_47 ?_
        refine lv_goto (tgt := 57) hx hb dX11_hull_48 (by decide) ?_
        have ho := Option.some.inj hf
        subst ho
        rw [hQq]
        exact xs_iret C hr hlk hP hD hS dX11_hull_57
    · replace hf := xsBr_f c11 hf
      refine lv_iconst (v := (0 : Int32)) hx hb dX11_hull_34 (by decide) ?_
      refine lv_goto (tgt := 57) hx hb dX11_hull_35 (by decide) ?_
      have ho := Option.some.inj hf
      subst ho
      rw [hQq]
      exact xs_iret C hr hlk hP hD hS dX11_hull_57
  replace hf := xsBd_use hf
  obtain ⟨v12, hf, hk13⟩ := hf
  refine lv_if_ne (tgt := 26) hx hb dX11_hull_19 (by decide) (fun c15 => ?_) (fun c15 => ?_)
  · replace hf := xsBr_f c15 hf
    refine lv_iconst (v := (0 : Int32)) hx hb dX11_hull_26 (by decide) ?_
    have ev := Option.some.inj hf
    subst ev
    exact K14 (0 : Int32) hk13 H locs ls hP hD hS (lv_sub hl [0, 1, 2] rfl)
  · replace hf := xsBr_t c15 hf
    refine lv_iconst (v := (1 : Int32)) hx hb dX11_hull_22 (by decide) ?_
    refine lv_goto (tgt := 27) hx hb dX11_hull_23 (by decide) ?_
    have ev := Option.some.inj hf
    subst ev
    exact K14 (1 : Int32) hk13 H locs ls hP hD hS (lv_sub hl [0, 1, 2] rfl)
set_option maxRecDepth 100000 in
set_option maxHeartbeats 8000000 in
theorem mX11_on (l : Launch) {X : xsX} {mThrown mRemembered mHasImage mIsLaid mEvents mCrossings mEdges mTaped mPoint mEnd mBegin mFaultAt mActs : Int32} {mWorld mImage mDraft mEarlier mOne mTwo mShare mCrossingOf mBundle mEventOf mDegree mFrom mTo mMet mTape mFive mTold mFar mViews mHullX mHullY mEndX mEndY mMeets mMeetsOf : Nat → Int32} {mX mY mD mHeightUp mHeightLow : Int64} {mEventX mEventY mEventD mUpper mLower : Nat → Int64} {Rw : va_W} {a0 : Int32} {a1 : Int32} {out : Int32 × Int32 × Int32 × (Nat → Int32) × (Nat → Int32) × (Nat → Int32) × Int64 × Int64 × Int64 × (Nat → Int64) × (Nat → Int64) × (Nat → Int64) × Int32 × (Nat → Int32) × (Nat → Int32) × (Nat → Int32) × (Nat → Int32) × (Nat → Int32) × (Nat → Int32) × Int32 × Int32} (hf : fX11_on mThrown mWorld mIsLaid mOne mTwo mShare mX mY mD mEventX mEventY mEventD mEvents mCrossingOf mBundle mEventOf mDegree mFrom mTo mCrossings mEdges a0 a1 = some out) : Met l yX11_on (xsWs yX11_on cX11_on 5 (some .int)) { frames := 6, cells := 0, slots := 0, locals := 164 } (xsP X (wM X mThrown mWorld mImage mDraft mEarlier mRemembered mHasImage mIsLaid mOne mTwo mShare mX mY mD mEventX mEventY mEventD mEvents mCrossingOf mBundle mEventOf mDegree mFrom mTo mCrossings mEdges mMet mUpper mLower mTape mTaped mPoint mEnd mBegin mFaultAt mFive mTold mActs mFar mViews mHullX mHullY mEndX mEndY mHeightUp mHeightLow mMeets mMeetsOf Rw) [.ref (xsA X 100), .int a0, .int a1]) (xsQi X out.1 (wM X out.2.1 mWorld mImage mDraft mEarlier mRemembered mHasImage out.2.2.1 out.2.2.2.1 out.2.2.2.2.1 out.2.2.2.2.2.1 out.2.2.2.2.2.2.1 out.2.2.2.2.2.2.2.1 out.2.2.2.2.2.2.2.2.1 out.2.2.2.2.2.2.2.2.2.1 out.2.2.2.2.2.2.2.2.2.2.1 out.2.2.2.2.2.2.2.2.2.2.2.1 out.2.2.2.2.2.2.2.2.2.2.2.2.1 out.2.2.2.2.2.2.2.2.2.2.2.2.2.1 out.2.2.2.2.2.2.2.2.2.2.2.2.2.2.1 out.2.2.2.2.2.2.2.2.2.2.2.2.2.2.2.1 out.2.2.2.2.2.2.2.2.2.2.2.2.2.2.2.2.1 out.2.2.2.2.2.2.2.2.2.2.2.2.2.2.2.2.2.1 out.2.2.2.2.2.2.2.2.2.2.2.2.2.2.2.2.2.2.1 out.2.2.2.2.2.2.2.2.2.2.2.2.2.2.2.2.2.2.2.1 out.2.2.2.2.2.2.2.2.2.2.2.2.2.2.2.2.2.2.2.2 mMet mUpper mLower mTape mTaped mPoint mEnd mBegin mFaultAt mFive mTold mActs mFar mViews mHullX mHullY mEndX mEndY mHeightUp mHeightLow mMeets mMeetsOf Rw)) 0 0 (xsF X) := by
  refine xs_meth RX11 (by decide) rfl (Nat.le_of_ble_eq_true rfl) ?_
  intro p e s m below meth c ls H locs C hP hD hS hr hlk hl
  have hx := C.1
  have hb := C.2.1
  have hl : lv_has ls 5 [(0, .ref (xsA X 100)), (1, .int a0), (2, .int a1)] := hl
  obtain ⟨Qq, hQq⟩ : ∃ Qq, Qq = xsQi X out.1 (wM X out.2.1 mWorld mImage mDraft mEarlier mRemembered mHasImage out.2.2.1 out.2.2.2.1 out.2.2.2.2.1 out.2.2.2.2.2.1 out.2.2.2.2.2.2.1 out.2.2.2.2.2.2.2.1 out.2.2.2.2.2.2.2.2.1 out.2.2.2.2.2.2.2.2.2.1 out.2.2.2.2.2.2.2.2.2.2.1 out.2.2.2.2.2.2.2.2.2.2.2.1 out.2.2.2.2.2.2.2.2.2.2.2.2.1 out.2.2.2.2.2.2.2.2.2.2.2.2.2.1 out.2.2.2.2.2.2.2.2.2.2.2.2.2.2.1 out.2.2.2.2.2.2.2.2.2.2.2.2.2.2.2.1 out.2.2.2.2.2.2.2.2.2.2.2.2.2.2.2.2.1 out.2.2.2.2.2.2.2.2.2.2.2.2.2.2.2.2.2.1 out.2.2.2.2.2.2.2.2.2.2.2.2.2.2.2.2.2.2.1 out.2.2.2.2.2.2.2.2.2.2.2.2.2.2.2.2.2.2.2.1 out.2.2.2.2.2.2.2.2.2.2.2.2.2.2.2.2.2.2.2.2 mMet mUpper mLower mTape mTaped mPoint mEnd mBegin mFaultAt mFive mTold mActs mFar mViews mHullX mHullY mEndX mEndY mHeightUp mHeightLow mMeets mMeetsOf Rw) := ⟨_, rfl⟩
  rw [← hQq]
  unfold fX11_on at hf
  refine lv_aload_n hx hb dX11_on_0 rfl (lv_at hl 0 rfl) ?_
  refine lv_iload_n hx hb dX11_on_1 rfl (lv_at hl 1 rfl) ?_
  replace hf := xsBd_use hf
  obtain ⟨o1, h2, hf⟩ := hf
  refine xs_calli hS (xs_runV (As := [.int a0]) C (mX11_noSegment l  h2) w_1638 w_1640 w_54 w_115 w_1641 hd_X11_noSegment ⟨rfl, rfl, Nat.le_of_ble_eq_true rfl, Nat.le_of_ble_eq_true rfl, Nat.zero_le _, Nat.zero_le _⟩ hP hD hS lk_X11 rfl hl.1 rfl (Nat.le_of_ble_eq_true rfl) dX11_on_2) (fun H locs hP hD hS => ?_)
  refine lv_if_eq (tgt := 10) hx hb dX11_on_5 (by decide) (fun c21 => ?_) (fun c21 => ?_)
  · replace hf := xsBr_t c21 hf
    refine lv_aload_n hx hb dX11_on_10 rfl (lv_at hl 0 rfl) ?_
    replace hf := xsBd_use hf
    obtain ⟨o3, h4, hf⟩ := hf
    refine xs_callv hS (xs_runV (As := []) C (mX11_lays l  h4) w_1646 w_1648 w_56 w_115 w_1649 hd_X11_lays ⟨rfl, rfl, Nat.le_of_ble_eq_true rfl, Nat.le_of_ble_eq_true rfl, Nat.zero_le _, Nat.zero_le _⟩ hP hD hS lk_X11 rfl hl.1 rfl (Nat.le_of_ble_eq_true rfl) dX11_on_11) (fun H locs hP hD hS => ?_)
    refine lv_iload_n hx hb dX11_on_14 rfl (lv_at hl 2 rfl) ?_
    refine lv_istore_n (lv' := [(3, .int a1), (0, .ref (xsA X 100)), (1, .int a0), (2, .int a1)]) hx hb dX11_on_15 rfl hl (by decide) rfl (fun ls hl => ?_)
    refine lv_iconst (v := (0 : Int32)) hx hb dX11_on_16 (by decide) ?_
    refine lv_istore (lv' := [(4, .int (0 : Int32)), (3, .int a1), (0, .ref (xsA X 100)), (1, .int a0), (2, .int a1)]) hx hb dX11_on_17 hl (by decide) rfl (fun ls hl => ?_)
    have K7 : ∀ (hf : fX11_on_J77 o1 o3 = some out) (H : Heap) (locs : List Loc) (ls : Array Slot), va_P (xsD X) vwCl (wM X o1.2 mWorld mImage mDraft mEarlier mRemembered mHasImage o3.1 o3.2.1 o3.2.2.1 o3.2.2.2.1 o3.2.2.2.2.1 o3.2.2.2.2.2.1 o3.2.2.2.2.2.2.1 o3.2.2.2.2.2.2.2.1 o3.2.2.2.2.2.2.2.2.1 o3.2.2.2.2.2.2.2.2.2.1 o3.2.2.2.2.2.2.2.2.2.2.1 o3.2.2.2.2.2.2.2.2.2.2.2.1 o3.2.2.2.2.2.2.2.2.2.2.2.2.1 o3.2.2.2.2.2.2.2.2.2.2.2.2.2.1 o3.2.2.2.2.2.2.2.2.2.2.2.2.2.2.1 o3.2.2.2.2.2.2.2.2.2.2.2.2.2.2.2.1 o3.2.2.2.2.2.2.2.2.2.2.2.2.2.2.2.2.1 o3.2.2.2.2.2.2.2.2.2.2.2.2.2.2.2.2.2.1 o3.2.2.2.2.2.2.2.2.2.2.2.2.2.2.2.2.2.2 mMet mUpper mLower mTape mTaped mPoint mEnd mBegin mFaultAt mFive mTold mActs mFar mViews mHullX mHullY mEndX mEndY mHeightUp mHeightLow mMeets mMeetsOf Rw) H → va_D (xsF X) (wM X o1.2 mWorld mImage mDraft mEarlier mRemembered mHasImage o3.1 o3.2.1 o3.2.2.1 o3.2.2.2.1 o3.2.2.2.2.1 o3.2.2.2.2.2.1 o3.2.2.2.2.2.2.1 o3.2.2.2.2.2.2.2.1 o3.2.2.2.2.2.2.2.2.1 o3.2.2.2.2.2.2.2.2.2.1 o3.2.2.2.2.2.2.2.2.2.2.1 o3.2.2.2.2.2.2.2.2.2.2.2.1 o3.2.2.2.2.2.2.2.2.2.2.2.2.1 o3.2.2.2.2.2.2.2.2.2.2.2.2.2.1 o3.2.2.2.2.2.2.2.2.2.2.2.2.2.2.1 o3.2.2.2.2.2.2.2.2.2.2.2.2.2.2.2.1 o3.2.2.2.2.2.2.2.2.2.2.2.2.2.2.2.2.1 o3.2.2.2.2.2.2.2.2.2.2.2.2.2.2.2.2.2.1 o3.2.2.2.2.2.2.2.2.2.2.2.2.2.2.2.2.2.2 mMet mUpper mLower mTape mTaped mPoint mEnd mBegin mFaultAt mFive mTold mActs mFar mViews mHullX mHullY mEndX mEndY mHeightUp mHeightLow mMeets mMeetsOf Rw) → va_S (xsF X) s.heap H locs → lv_has ls 5 [] → W p l e { frames := 6, cells := 0, slots := 0, locals := 164 } s m ([.ref (xsA X 100), .int a0, .int a1] : List Value).toArray below meth c H locs 0 0 (MQ below Qq ([.ref (xsA X 100), .int a0, .int a1] : List Value).toArray s 0 0 (xsF X)) (F0 m 77 ls []) := by
      intro hf H locs ls hP hD hS hl
      unfold fX11_on_J77 at hf
      refine lv_iconst (v := (-1 : Int32)) hx hb dX11_on_77 (by decide) ?_
      have ho := Option.some.inj hf
      subst ho
      rw [hQq]
      exact xs_iret C hr hlk hP hD hS dX11_on_78
    replace hf := xsBd_use hf
    obtain ⟨r7, hk70, hf⟩ := hf
    have L7 : ∀ (sg : Int32 × Int32) (rg : (Int32 × Int32 × Int32 × (Nat → Int32) × (Nat → Int32) × (Nat → Int32) × Int64 × Int64 × Int64 × (Nat → Int64) × (Nat → Int64) × (Nat → Int64) × Int32 × (Nat → Int32) × (Nat → Int32) × (Nat → Int32) × (Nat → Int32) × (Nat → Int32) × (Nat → Int32) × Int32 × Int32) ⊕ (Unit)), xsWh (fun s7 => fX11_on_L19 a0 o1 o3 s7.1 s7.2) sg = some rg → (xsSm rg (fun v7 => fX11_on_J77 o1 o3) = some out → ∀ (H : Heap) (locs : List Loc) (ls : Array Slot), va_P (xsD X) vwCl (wM X o1.2 mWorld mImage mDraft mEarlier mRemembered mHasImage o3.1 o3.2.1 o3.2.2.1 o3.2.2.2.1 o3.2.2.2.2.1 o3.2.2.2.2.2.1 o3.2.2.2.2.2.2.1 o3.2.2.2.2.2.2.2.1 o3.2.2.2.2.2.2.2.2.1 o3.2.2.2.2.2.2.2.2.2.1 o3.2.2.2.2.2.2.2.2.2.2.1 o3.2.2.2.2.2.2.2.2.2.2.2.1 o3.2.2.2.2.2.2.2.2.2.2.2.2.1 o3.2.2.2.2.2.2.2.2.2.2.2.2.2.1 o3.2.2.2.2.2.2.2.2.2.2.2.2.2.2.1 o3.2.2.2.2.2.2.2.2.2.2.2.2.2.2.2.1 o3.2.2.2.2.2.2.2.2.2.2.2.2.2.2.2.2.1 o3.2.2.2.2.2.2.2.2.2.2.2.2.2.2.2.2.2.1 o3.2.2.2.2.2.2.2.2.2.2.2.2.2.2.2.2.2.2 mMet mUpper mLower mTape mTaped mPoint mEnd mBegin mFaultAt mFive mTold mActs mFar mViews mHullX mHullY mEndX mEndY mHeightUp mHeightLow mMeets mMeetsOf Rw) H → va_D (xsF X) (wM X o1.2 mWorld mImage mDraft mEarlier mRemembered mHasImage o3.1 o3.2.1 o3.2.2.1 o3.2.2.2.1 o3.2.2.2.2.1 o3.2.2.2.2.2.1 o3.2.2.2.2.2.2.1 o3.2.2.2.2.2.2.2.1 o3.2.2.2.2.2.2.2.2.1 o3.2.2.2.2.2.2.2.2.2.1 o3.2.2.2.2.2.2.2.2.2.2.1 o3.2.2.2.2.2.2.2.2.2.2.2.1 o3.2.2.2.2.2.2.2.2.2.2.2.2.1 o3.2.2.2.2.2.2.2.2.2.2.2.2.2.1 o3.2.2.2.2.2.2.2.2.2.2.2.2.2.2.1 o3.2.2.2.2.2.2.2.2.2.2.2.2.2.2.2.1 o3.2.2.2.2.2.2.2.2.2.2.2.2.2.2.2.2.1 o3.2.2.2.2.2.2.2.2.2.2.2.2.2.2.2.2.2.1 o3.2.2.2.2.2.2.2.2.2.2.2.2.2.2.2.2.2.2 mMet mUpper mLower mTape mTaped mPoint mEnd mBegin mFaultAt mFive mTold mActs mFar mViews mHullX mHullY mEndX mEndY mHeightUp mHeightLow mMeets mMeetsOf Rw) → va_S (xsF X) s.heap H locs → lv_has ls 5 [(0, .ref (xsA X 100)), (1, .int a0), (3, .int sg.1), (4, .int sg.2)] → W p l e { frames := 6, cells := 0, slots := 0, locals := 164 } s m ([.ref (xsA X 100), .int a0, .int a1] : List Value).toArray below meth c H locs 0 0 (MQ below Qq ([.ref (xsA X 100), .int a0, .int a1] : List Value).toArray s 0 0 (xsF X)) (F0 m 19 ls [])) := by
      refine xsWh_ind ?_
      intro sg r7 u7 hf ih7 hx7 hk7 H locs ls hP hD hS hl
      obtain ⟨y5, y6⟩ := sg
      replace hf : fX11_on_L19 a0 o1 o3 y5 y6 = some u7 := hf
      replace hl : lv_has ls 5 [(0, .ref (xsA X 100)), (1, .int a0), (3, .int y5), (4, .int y6)] := hl
      replace hP : va_P (xsD X) vwCl (wM X o1.2 mWorld mImage mDraft mEarlier mRemembered mHasImage o3.1 o3.2.1 o3.2.2.1 o3.2.2.2.1 o3.2.2.2.2.1 o3.2.2.2.2.2.1 o3.2.2.2.2.2.2.1 o3.2.2.2.2.2.2.2.1 o3.2.2.2.2.2.2.2.2.1 o3.2.2.2.2.2.2.2.2.2.1 o3.2.2.2.2.2.2.2.2.2.2.1 o3.2.2.2.2.2.2.2.2.2.2.2.1 o3.2.2.2.2.2.2.2.2.2.2.2.2.1 o3.2.2.2.2.2.2.2.2.2.2.2.2.2.1 o3.2.2.2.2.2.2.2.2.2.2.2.2.2.2.1 o3.2.2.2.2.2.2.2.2.2.2.2.2.2.2.2.1 o3.2.2.2.2.2.2.2.2.2.2.2.2.2.2.2.2.1 o3.2.2.2.2.2.2.2.2.2.2.2.2.2.2.2.2.2.1 o3.2.2.2.2.2.2.2.2.2.2.2.2.2.2.2.2.2.2 mMet mUpper mLower mTape mTaped mPoint mEnd mBegin mFaultAt mFive mTold mActs mFar mViews mHullX mHullY mEndX mEndY mHeightUp mHeightLow mMeets mMeetsOf Rw) H := hP
      replace hD : va_D (xsF X) (wM X o1.2 mWorld mImage mDraft mEarlier mRemembered mHasImage o3.1 o3.2.1 o3.2.2.1 o3.2.2.2.1 o3.2.2.2.2.1 o3.2.2.2.2.2.1 o3.2.2.2.2.2.2.1 o3.2.2.2.2.2.2.2.1 o3.2.2.2.2.2.2.2.2.1 o3.2.2.2.2.2.2.2.2.2.1 o3.2.2.2.2.2.2.2.2.2.2.1 o3.2.2.2.2.2.2.2.2.2.2.2.1 o3.2.2.2.2.2.2.2.2.2.2.2.2.1 o3.2.2.2.2.2.2.2.2.2.2.2.2.2.1 o3.2.2.2.2.2.2.2.2.2.2.2.2.2.2.1 o3.2.2.2.2.2.2.2.2.2.2.2.2.2.2.2.1 o3.2.2.2.2.2.2.2.2.2.2.2.2.2.2.2.2.1 o3.2.2.2.2.2.2.2.2.2.2.2.2.2.2.2.2.2.1 o3.2.2.2.2.2.2.2.2.2.2.2.2.2.2.2.2.2.2 mMet mUpper mLower mTape mTaped mPoint mEnd mBegin mFaultAt mFive mTold mActs mFar mViews mHullX mHullY mEndX mEndY mHeightUp mHeightLow mMeets mMeetsOf Rw) := hD
      unfold fX11_on_L19 at hf
      refine lv_iload hx hb dX11_on_19 (lv_at hl 3 rfl) ?_
      refine lv_aload_n hx hb dX11_on_21 rfl (lv_at hl 0 rfl) ?_
      refine xg_X11_193 C hP dX11_on_22 ?_
      refine lv_icmp_ge (tgt := 77) hx hb dX11_on_25 (by decide) (fun c20 => ?_) (fun c20 => ?_)
      · replace hf := xsBr_t c20 hf
        have ez := hx7 _ (Option.some.inj hf).symm
        subst ez
        exact K7 hk7 H locs ls hP hD hS (lv_sub hl [] rfl)
      · replace hf := xsBr_f c20 hf
        refine lv_aload_n hx hb dX11_on_28 rfl (lv_at hl 0 rfl) ?_
        refine xg_X11_48 C hP dX11_on_29 ?_
        refine lv_iload hx hb dX11_on_32 (lv_at hl 3 rfl) ?_
        replace hf := xsCk_use hf
        obtain ⟨h8, hf⟩ := hf
        refine xl_mBundle C hP h8 dX11_on_34 ?_
        refine lv_iload_n hx hb dX11_on_35 rfl (lv_at hl 1 rfl) ?_
        replace hf := xsBd_use hf
        obtain ⟨o9, h10, hf⟩ := hf
        refine xs_calli hS (xs_runS (As := [.int (o3.2.2.2.2.2.2.2.2.2.2.2.2.1 y6.toNatClampNeg), .int a0]) C (mX11_holds l  h10) w_1700 w_1701 w_115 w_1702 hd_X11_holds ⟨rfl, rfl, Nat.le_of_ble_eq_true rfl, Nat.le_of_ble_eq_true rfl, Nat.zero_le _, Nat.zero_le _⟩ hP hD hS hl.1 rfl (Nat.le_of_ble_eq_true rfl) dX11_on_36) (fun H locs hP hD hS => ?_)
        refine lv_if_eq (tgt := 71) hx hb dX11_on_39 (by decide) (fun c19 => ?_) (fun c19 => ?_)
        · replace hf := xsBr_t c19 hf
          obtain ⟨x11, ex11⟩ : ∃ y : Int32, y = y6 + (1 : Int32) := ⟨_, rfl⟩
          replace hf := xsLt_use ex11 hf
          refine lv_iinc (v := x11) (lv' := [(4, .int x11), (0, .ref (xsA X 100)), (1, .int a0), (3, .int y5)]) hx hb dX11_on_71 hl (k := 3) rfl (by rw [ex11]; rfl) (by decide) rfl (fun ls hl => ?_)
          refine lv_goto (tgt := 19) hx hb dX11_on_74 (by decide) ?_
          exact ih7 _ (Option.some.inj hf).symm hk7 H locs ls hP hD hS (lv_sub hl [1, 2, 3, 0] rfl)
        · replace hf := xsBr_f c19 hf
          refine lv_aload_n hx hb dX11_on_42 rfl (lv_at hl 0 rfl) ?_
          refine xg_X11_45 C hP dX11_on_43 ?_
          refine lv_iload hx hb dX11_on_46 (lv_at hl 3 rfl) ?_
          replace hf := xsCk_use hf
          obtain ⟨h12, hf⟩ := hf
          refine xl_mCrossingOf C hP h12 dX11_on_48 ?_
          refine lv_iconst (v := (-1 : Int32)) hx hb dX11_on_49 (by decide) ?_
          refine lv_icmp_ne (tgt := 56) hx hb dX11_on_50 (by decide) (fun c18 => ?_) (fun c18 => ?_)
          · replace hf := xsBr_f c18 hf
            refine lv_iload_n hx hb dX11_on_56 rfl (lv_at hl 2 rfl) ?_
            refine lv_if_ne (tgt := 68) hx hb dX11_on_57 (by decide) (fun c16 => ?_) (fun c16 => ?_)
            · replace hf := xsBr_f c16 hf
              obtain ⟨x13, ex13⟩ : ∃ y : Int32, y = y5 + (-1 : Int32) := ⟨_, rfl⟩
              replace hf := xsLt_use ex13 hf
              refine lv_iinc (v := x13) (lv' := [(3, .int x13), (0, .ref (xsA X 100)), (1, .int a0), (4, .int y6)]) hx hb dX11_on_68 hl (k := 2) rfl (by rw [ex13]; rfl) (by decide) rfl (fun ls hl => ?_)
              obtain ⟨x14, ex14⟩ : ∃ y : Int32, y = y6 + (1 : Int32) := ⟨_, rfl⟩
              replace hf := xsLt_use ex14 hf
              refine lv_iinc (v := x14) (lv' := [(4, .int x14), (3, .int x13), (0, .ref (xsA X 100)), (1, .int a0)]) hx hb dX11_on_71 hl (k := 3) rfl (by rw [ex14]; rfl) (by decide) rfl (fun ls hl => ?_)
              refine lv_goto (tgt := 19) hx hb dX11_on_74 (by decide) ?_
              exact ih7 _ (Option.some.inj hf).symm hk7 H locs ls hP hD hS (lv_sub hl [2, 3, 1, 0] rfl)
            · replace hf := xsBr_t c16 hf
              refine lv_aload_n hx hb dX11_on_60 rfl (lv_at hl 0 rfl) ?_
              refine xg_X11_45 C hP dX11_on_61 ?_
              refine lv_iload hx hb dX11_on_64 (lv_at hl 3 rfl) ?_
              replace hf := xsCk_use hf
              obtain ⟨h15, hf⟩ := hf
              refine xl_mCrossingOf C hP h15 dX11_on_66 ?_
              have ez := hx7 _ (Option.some.inj hf).symm
              subst ez
              have hf := hk7
              have ho := Option.some.inj hf
              subst ho
              rw [hQq]
              exact xs_iret C hr hlk hP hD hS dX11_on_67
          · replace hf := xsBr_t c18 hf
            refine lv_goto (tgt := 71) hx hb dX11_on_53 (by decide) ?_
            obtain ⟨x17, ex17⟩ : ∃ y : Int32, y = y6 + (1 : Int32) := ⟨_, rfl⟩
            replace hf := xsLt_use ex17 hf
            refine lv_iinc (v := x17) (lv' := [(4, .int x17), (0, .ref (xsA X 100)), (1, .int a0), (3, .int y5)]) hx hb dX11_on_71 hl (k := 3) rfl (by rw [ex17]; rfl) (by decide) rfl (fun ls hl => ?_)
            refine lv_goto (tgt := 19) hx hb dX11_on_74 (by decide) ?_
            exact ih7 _ (Option.some.inj hf).symm hk7 H locs ls hP hD hS (lv_sub hl [1, 2, 3, 0] rfl)
    exact L7 (a1, (0 : Int32)) r7 hk70 hf H locs ls hP hD hS (lv_sub hl [2, 3, 1, 0] rfl)
  · replace hf := xsBr_f c21 hf
    refine lv_iconst (v := (0 : Int32)) hx hb dX11_on_8 (by decide) ?_
    have ho := Option.some.inj hf
    subst ho
    rw [hQq]
    exact xs_iret C hr hlk hP hD hS dX11_on_9
set_option maxRecDepth 100000 in
set_option maxHeartbeats 8000000 in
theorem mX11_noPlace (l : Launch) {X : xsX} {mThrown mRemembered mHasImage mIsLaid mEvents mCrossings mEdges mTaped mPoint mEnd mBegin mFaultAt mActs : Int32} {mWorld mImage mDraft mEarlier mOne mTwo mShare mCrossingOf mBundle mEventOf mDegree mFrom mTo mMet mTape mFive mTold mFar mViews mHullX mHullY mEndX mEndY mMeets mMeetsOf : Nat → Int32} {mX mY mD mHeightUp mHeightLow : Int64} {mEventX mEventY mEventD mUpper mLower : Nat → Int64} {Rw : va_W} {a0 : Int32} {a1 : Int32} {out : Int32 × Int32} (hf : fX11_noPlace mThrown a0 a1 = some out) : Met l yX11_noPlace (xsWs yX11_noPlace cX11_noPlace 3 (some .boolean)) { frames := 2, cells := 0, slots := 0, locals := 46 } (xsP X (wM X mThrown mWorld mImage mDraft mEarlier mRemembered mHasImage mIsLaid mOne mTwo mShare mX mY mD mEventX mEventY mEventD mEvents mCrossingOf mBundle mEventOf mDegree mFrom mTo mCrossings mEdges mMet mUpper mLower mTape mTaped mPoint mEnd mBegin mFaultAt mFive mTold mActs mFar mViews mHullX mHullY mEndX mEndY mHeightUp mHeightLow mMeets mMeetsOf Rw) [.ref (xsA X 100), .int a0, .int a1]) (xsQi X out.1 (wM X out.2 mWorld mImage mDraft mEarlier mRemembered mHasImage mIsLaid mOne mTwo mShare mX mY mD mEventX mEventY mEventD mEvents mCrossingOf mBundle mEventOf mDegree mFrom mTo mCrossings mEdges mMet mUpper mLower mTape mTaped mPoint mEnd mBegin mFaultAt mFive mTold mActs mFar mViews mHullX mHullY mEndX mEndY mHeightUp mHeightLow mMeets mMeetsOf Rw)) 0 0 (xsF X) := by
  refine xs_meth RX11 (by decide) rfl (Nat.le_of_ble_eq_true rfl) ?_
  intro p e s m below meth c ls H locs C hP hD hS hr hlk hl
  have hx := C.1
  have hb := C.2.1
  have hl : lv_has ls 3 [(0, .ref (xsA X 100)), (1, .int a0), (2, .int a1)] := hl
  obtain ⟨Qq, hQq⟩ : ∃ Qq, Qq = xsQi X out.1 (wM X out.2 mWorld mImage mDraft mEarlier mRemembered mHasImage mIsLaid mOne mTwo mShare mX mY mD mEventX mEventY mEventD mEvents mCrossingOf mBundle mEventOf mDegree mFrom mTo mCrossings mEdges mMet mUpper mLower mTape mTaped mPoint mEnd mBegin mFaultAt mFive mTold mActs mFar mViews mHullX mHullY mEndX mEndY mHeightUp mHeightLow mMeets mMeetsOf Rw) := ⟨_, rfl⟩
  rw [← hQq]
  unfold fX11_noPlace at hf
  refine lv_aload_n hx hb dX11_noPlace_0 rfl (lv_at hl 0 rfl) ?_
  refine lv_iload_n hx hb dX11_noPlace_1 rfl (lv_at hl 1 rfl) ?_
  refine lv_iload_n hx hb dX11_noPlace_2 rfl (lv_at hl 2 rfl) ?_
  replace hf := xsBd_use hf
  obtain ⟨o1, h2, hf⟩ := hf
  refine xs_calli hS (xs_runS (As := [.int a0, .int a1]) C (mX11_isPlace l  h2) w_1627 w_1628 w_115 w_1629 hd_X11_isPlace ⟨rfl, rfl, Nat.le_of_ble_eq_true rfl, Nat.le_of_ble_eq_true rfl, Nat.zero_le _, Nat.zero_le _⟩ hP hD hS hl.1 rfl (Nat.le_of_ble_eq_true rfl) dX11_noPlace_3) (fun H locs hP hD hS => ?_)
  have K9 : ∀ (y3 : Int32) (hf : fX11_noPlace_J14 mThrown y3 = some out) (H : Heap) (locs : List Loc) (ls : Array Slot), va_P (xsD X) vwCl (wM X mThrown mWorld mImage mDraft mEarlier mRemembered mHasImage mIsLaid mOne mTwo mShare mX mY mD mEventX mEventY mEventD mEvents mCrossingOf mBundle mEventOf mDegree mFrom mTo mCrossings mEdges mMet mUpper mLower mTape mTaped mPoint mEnd mBegin mFaultAt mFive mTold mActs mFar mViews mHullX mHullY mEndX mEndY mHeightUp mHeightLow mMeets mMeetsOf Rw) H → va_D (xsF X) (wM X mThrown mWorld mImage mDraft mEarlier mRemembered mHasImage mIsLaid mOne mTwo mShare mX mY mD mEventX mEventY mEventD mEvents mCrossingOf mBundle mEventOf mDegree mFrom mTo mCrossings mEdges mMet mUpper mLower mTape mTaped mPoint mEnd mBegin mFaultAt mFive mTold mActs mFar mViews mHullX mHullY mEndX mEndY mHeightUp mHeightLow mMeets mMeetsOf Rw) → va_S (xsF X) s.heap H locs → lv_has ls 3 [] → W p l e { frames := 2, cells := 0, slots := 0, locals := 46 } s m ([.ref (xsA X 100), .int a0, .int a1] : List Value).toArray below meth c H locs 0 0 (MQ below Qq ([.ref (xsA X 100), .int a0, .int a1] : List Value).toArray s 0 0 (xsF X)) (F0 m 14 ls [.int y3, .ref (xsA X 100)]) := by
    intro y3 hf H locs ls hP hD hS hl
    unfold fX11_noPlace_J14 at hf
    refine lv_iconst (v := (1 : Int32)) hx hb dX11_noPlace_14 (by decide) ?_
    replace hf := xsBd_use hf
    obtain ⟨o4, h5, hf⟩ := hf
    refine xs_calli hS (xs_runV (As := [.int y3, .int (1 : Int32)]) C (mX11_throwsIf l  h5) w_1502 w_1504 w_33 w_115 w_1505 hd_X11_throwsIf ⟨rfl, rfl, Nat.le_of_ble_eq_true rfl, Nat.le_of_ble_eq_true rfl, Nat.zero_le _, Nat.zero_le _⟩ hP hD hS lk_X11 rfl hl.1 rfl (Nat.le_of_ble_eq_true rfl) dX11_noPlace_15) (fun H locs hP hD hS => ?_)
    replace hf := xsCk_use hf
    obtain ⟨h6, hf⟩ := hf
    have ho := Option.some.inj hf
    subst ho
    rw [hQq]
    exact xs_zret C hr hlk h6 hP hD hS dX11_noPlace_18
  replace hf := xsBd_use hf
  obtain ⟨v7, hf, hk8⟩ := hf
  refine lv_if_ne (tgt := 13) hx hb dX11_noPlace_6 (by decide) (fun c10 => ?_) (fun c10 => ?_)
  · replace hf := xsBr_f c10 hf
    refine lv_iconst (v := (0 : Int32)) hx hb dX11_noPlace_13 (by decide) ?_
    have ev := Option.some.inj hf
    subst ev
    exact K9 (0 : Int32) hk8 H locs ls hP hD hS (lv_sub hl [] rfl)
  · replace hf := xsBr_t c10 hf
    refine lv_iconst (v := (1 : Int32)) hx hb dX11_noPlace_9 (by decide) ?_
    refine lv_goto (tgt := 14) hx hb dX11_noPlace_10 (by decide) ?_
    have ev := Option.some.inj hf
    subst ev
    exact K9 (1 : Int32) hk8 H locs ls hP hD hS (lv_sub hl [] rfl)
set_option maxRecDepth 100000 in
set_option maxHeartbeats 8000000 in
theorem mX11_whoHas (l : Launch) {X : xsX} {mThrown mRemembered mHasImage mIsLaid mEvents mCrossings mEdges mTaped mPoint mEnd mBegin mFaultAt mActs : Int32} {mWorld mImage mDraft mEarlier mOne mTwo mShare mCrossingOf mBundle mEventOf mDegree mFrom mTo mMet mTape mFive mTold mFar mViews mHullX mHullY mEndX mEndY mMeets mMeetsOf : Nat → Int32} {mX mY mD mHeightUp mHeightLow : Int64} {mEventX mEventY mEventD mUpper mLower : Nat → Int64} {Rw : va_W} {a0 : Int32} {a1 : Int32} {out : Int32 × (Nat → Int32)} (hf : fX11_whoHas mWorld mOne a0 a1 = some out) : Met l yX11_whoHas (xsWs yX11_whoHas cX11_whoHas 5 (some .int)) { frames := 2, cells := 0, slots := 0, locals := 55 } (xsP X (wM X mThrown mWorld mImage mDraft mEarlier mRemembered mHasImage mIsLaid mOne mTwo mShare mX mY mD mEventX mEventY mEventD mEvents mCrossingOf mBundle mEventOf mDegree mFrom mTo mCrossings mEdges mMet mUpper mLower mTape mTaped mPoint mEnd mBegin mFaultAt mFive mTold mActs mFar mViews mHullX mHullY mEndX mEndY mHeightUp mHeightLow mMeets mMeetsOf Rw) [.ref (xsA X 100), .int a0, .int a1]) (xsQi X out.1 (wM X mThrown mWorld mImage mDraft mEarlier mRemembered mHasImage mIsLaid out.2 mTwo mShare mX mY mD mEventX mEventY mEventD mEvents mCrossingOf mBundle mEventOf mDegree mFrom mTo mCrossings mEdges mMet mUpper mLower mTape mTaped mPoint mEnd mBegin mFaultAt mFive mTold mActs mFar mViews mHullX mHullY mEndX mEndY mHeightUp mHeightLow mMeets mMeetsOf Rw)) 0 0 (xsF X) := by
  refine xs_meth RX11 (by decide) rfl (Nat.le_of_ble_eq_true rfl) ?_
  intro p e s m below meth c ls H locs C hP hD hS hr hlk hl
  have hx := C.1
  have hb := C.2.1
  have hl : lv_has ls 5 [(0, .ref (xsA X 100)), (1, .int a0), (2, .int a1)] := hl
  obtain ⟨Qq, hQq⟩ : ∃ Qq, Qq = xsQi X out.1 (wM X mThrown mWorld mImage mDraft mEarlier mRemembered mHasImage mIsLaid out.2 mTwo mShare mX mY mD mEventX mEventY mEventD mEvents mCrossingOf mBundle mEventOf mDegree mFrom mTo mCrossings mEdges mMet mUpper mLower mTape mTaped mPoint mEnd mBegin mFaultAt mFive mTold mActs mFar mViews mHullX mHullY mEndX mEndY mHeightUp mHeightLow mMeets mMeetsOf Rw) := ⟨_, rfl⟩
  rw [← hQq]
  unfold fX11_whoHas at hf
  refine lv_iconst (v := (0 : Int32)) hx hb dX11_whoHas_0 (by decide) ?_
  refine lv_istore_n (lv' := [(3, .int (0 : Int32)), (0, .ref (xsA X 100)), (1, .int a0), (2, .int a1)]) hx hb dX11_whoHas_1 rfl hl (by decide) rfl (fun ls hl => ?_)
  refine lv_iconst (v := (0 : Int32)) hx hb dX11_whoHas_2 (by decide) ?_
  refine lv_istore (lv' := [(4, .int (0 : Int32)), (3, .int (0 : Int32)), (0, .ref (xsA X 100)), (1, .int a0), (2, .int a1)]) hx hb dX11_whoHas_3 hl (by decide) rfl (fun ls hl => ?_)
  have K4 : ∀ (y5 : Int32) (y6 : Nat → Int32) (hf : fX11_whoHas_J56 y5 y6 = some out) (H : Heap) (locs : List Loc) (ls : Array Slot), va_P (xsD X) vwCl (wM X mThrown mWorld mImage mDraft mEarlier mRemembered mHasImage mIsLaid y6 mTwo mShare mX mY mD mEventX mEventY mEventD mEvents mCrossingOf mBundle mEventOf mDegree mFrom mTo mCrossings mEdges mMet mUpper mLower mTape mTaped mPoint mEnd mBegin mFaultAt mFive mTold mActs mFar mViews mHullX mHullY mEndX mEndY mHeightUp mHeightLow mMeets mMeetsOf Rw) H → va_D (xsF X) (wM X mThrown mWorld mImage mDraft mEarlier mRemembered mHasImage mIsLaid y6 mTwo mShare mX mY mD mEventX mEventY mEventD mEvents mCrossingOf mBundle mEventOf mDegree mFrom mTo mCrossings mEdges mMet mUpper mLower mTape mTaped mPoint mEnd mBegin mFaultAt mFive mTold mActs mFar mViews mHullX mHullY mEndX mEndY mHeightUp mHeightLow mMeets mMeetsOf Rw) → va_S (xsF X) s.heap H locs → lv_has ls 5 [(3, .int y5)] → W p l e { frames := 2, cells := 0, slots := 0, locals := 55 } s m ([.ref (xsA X 100), .int a0, .int a1] : List Value).toArray below meth c H locs 0 0 (MQ below Qq ([.ref (xsA X 100), .int a0, .int a1] : List Value).toArray s 0 0 (xsF X)) (F0 m 56 ls []) := by
    intro y5 y6 hf H locs ls hP hD hS hl
    unfold fX11_whoHas_J56 at hf
    refine lv_iload_n hx hb dX11_whoHas_56 rfl (lv_at hl 0 rfl) ?_
    have ho := Option.some.inj hf
    subst ho
    rw [hQq]
    exact xs_iret C hr hlk hP hD hS dX11_whoHas_57
  replace hf := xsBd_use hf
  obtain ⟨r4, hk40, hf⟩ := hf
  have L4 : ∀ (sg : Int32 × Int32 × (Nat → Int32)) (rg : Int32 × (Nat → Int32)), xsWh (fun s4 => fX11_whoHas_L5 mWorld a0 a1 s4.1 s4.2.1 s4.2.2) sg = some rg → (fX11_whoHas_J56 rg.1 rg.2 = some out → ∀ (H : Heap) (locs : List Loc) (ls : Array Slot), va_P (xsD X) vwCl (wM X mThrown mWorld mImage mDraft mEarlier mRemembered mHasImage mIsLaid sg.2.2 mTwo mShare mX mY mD mEventX mEventY mEventD mEvents mCrossingOf mBundle mEventOf mDegree mFrom mTo mCrossings mEdges mMet mUpper mLower mTape mTaped mPoint mEnd mBegin mFaultAt mFive mTold mActs mFar mViews mHullX mHullY mEndX mEndY mHeightUp mHeightLow mMeets mMeetsOf Rw) H → va_D (xsF X) (wM X mThrown mWorld mImage mDraft mEarlier mRemembered mHasImage mIsLaid sg.2.2 mTwo mShare mX mY mD mEventX mEventY mEventD mEvents mCrossingOf mBundle mEventOf mDegree mFrom mTo mCrossings mEdges mMet mUpper mLower mTape mTaped mPoint mEnd mBegin mFaultAt mFive mTold mActs mFar mViews mHullX mHullY mEndX mEndY mHeightUp mHeightLow mMeets mMeetsOf Rw) → va_S (xsF X) s.heap H locs → lv_has ls 5 [(0, .ref (xsA X 100)), (1, .int a0), (2, .int a1), (3, .int sg.1), (4, .int sg.2.1)] → W p l e { frames := 2, cells := 0, slots := 0, locals := 55 } s m ([.ref (xsA X 100), .int a0, .int a1] : List Value).toArray below meth c H locs 0 0 (MQ below Qq ([.ref (xsA X 100), .int a0, .int a1] : List Value).toArray s 0 0 (xsF X)) (F0 m 5 ls [])) := by
    refine xsWh_ind ?_
    intro sg r4 u4 hf ih4 hx4 hk4 H locs ls hP hD hS hl
    obtain ⟨y1, y2, y3⟩ := sg
    replace hf : fX11_whoHas_L5 mWorld a0 a1 y1 y2 y3 = some u4 := hf
    replace hl : lv_has ls 5 [(0, .ref (xsA X 100)), (1, .int a0), (2, .int a1), (3, .int y1), (4, .int y2)] := hl
    replace hP : va_P (xsD X) vwCl (wM X mThrown mWorld mImage mDraft mEarlier mRemembered mHasImage mIsLaid y3 mTwo mShare mX mY mD mEventX mEventY mEventD mEvents mCrossingOf mBundle mEventOf mDegree mFrom mTo mCrossings mEdges mMet mUpper mLower mTape mTaped mPoint mEnd mBegin mFaultAt mFive mTold mActs mFar mViews mHullX mHullY mEndX mEndY mHeightUp mHeightLow mMeets mMeetsOf Rw) H := hP
    replace hD : va_D (xsF X) (wM X mThrown mWorld mImage mDraft mEarlier mRemembered mHasImage mIsLaid y3 mTwo mShare mX mY mD mEventX mEventY mEventD mEvents mCrossingOf mBundle mEventOf mDegree mFrom mTo mCrossings mEdges mMet mUpper mLower mTape mTaped mPoint mEnd mBegin mFaultAt mFive mTold mActs mFar mViews mHullX mHullY mEndX mEndY mHeightUp mHeightLow mMeets mMeetsOf Rw) := hD
    unfold fX11_whoHas_L5 at hf
    refine lv_iload hx hb dX11_whoHas_5 (lv_at hl 4 rfl) ?_
    refine lv_aload_n hx hb dX11_whoHas_7 rfl (lv_at hl 0 rfl) ?_
    replace hf := xsBd_use hf
    obtain ⟨o7, h8, hf⟩ := hf
    refine xs_calli hS (xs_runV (As := []) C (mX11_many l  h8) w_1581 w_1583 w_44 w_115 w_1584 hd_X11_many ⟨rfl, rfl, Nat.le_of_ble_eq_true rfl, Nat.le_of_ble_eq_true rfl, Nat.zero_le _, Nat.zero_le _⟩ hP hD hS lk_X11 rfl hl.1 rfl (Nat.le_of_ble_eq_true rfl) dX11_whoHas_8) (fun H locs hP hD hS => ?_)
    refine lv_icmp_ge (tgt := 56) hx hb dX11_whoHas_11 (by decide) (fun c20 => ?_) (fun c20 => ?_)
    · replace hf := xsBr_t c20 hf
      have ez := hx4 _ (Option.some.inj hf).symm
      subst ez
      exact K4 y1 y3 hk4 H locs ls hP hD hS (lv_sub hl [3] rfl)
    · replace hf := xsBr_f c20 hf
      refine lv_aload_n hx hb dX11_whoHas_14 rfl (lv_at hl 0 rfl) ?_
      refine lv_aload_n hx hb dX11_whoHas_15 rfl (lv_at hl 0 rfl) ?_
      refine xg_X11_26 C hP dX11_whoHas_16 ?_
      refine lv_iload hx hb dX11_whoHas_19 (lv_at hl 4 rfl) ?_
      replace hf := xsBd_use hf
      obtain ⟨o9, h10, hf⟩ := hf
      refine xs_callv hS (xs_runV (As := [.ref (xsA X 105), .int y2]) C (mX11_takes l  h10) w_1661 w_1663 w_59 w_115 w_1664 hd_X11_takes ⟨rfl, rfl, Nat.le_of_ble_eq_true rfl, Nat.le_of_ble_eq_true rfl, Nat.zero_le _, Nat.zero_le _⟩ hP hD hS lk_X11 rfl hl.1 rfl (Nat.le_of_ble_eq_true rfl) dX11_whoHas_21) (fun H locs hP hD hS => ?_)
      refine lv_iload_n hx hb dX11_whoHas_24 rfl (lv_at hl 3 rfl) ?_
      refine lv_aload_n hx hb dX11_whoHas_25 rfl (lv_at hl 0 rfl) ?_
      refine xg_X11_26 C hP dX11_whoHas_26 ?_
      refine lv_iload_n hx hb dX11_whoHas_29 rfl (lv_at hl 1 rfl) ?_
      refine lv_i2l hx hb dX11_whoHas_30 rfl ?_
      refine lv_iload_n hx hb dX11_whoHas_31 rfl (lv_at hl 2 rfl) ?_
      refine lv_i2l hx hb dX11_whoHas_32 rfl ?_
      refine lv_lconst (v := (1 : Int64)) hx hb dX11_whoHas_33 (by decide) ?_
      replace hf := xsBd_use hf
      obtain ⟨o11, h12, hf⟩ := hf
      refine xs_calli hS (xs_runS (As := [.ref (xsA X 105), .long a0.toInt64, .long a1.toInt64, .long (1 : Int64)]) C (mX11_isOn_v1 l  h12) w_1672 w_1673 w_115 w_1674 hd_X11_isOn ⟨rfl, rfl, Nat.le_of_ble_eq_true rfl, Nat.le_of_ble_eq_true rfl, Nat.zero_le _, Nat.zero_le _⟩ hP hD hS hl.1 rfl (Nat.le_of_ble_eq_true rfl) dX11_whoHas_34) (fun H locs hP hD hS => ?_)
      have K18 : ∀ (y13 : Int32) (hf : fX11_whoHas_J48 y1 y2 o9 y13 = some u4) (H : Heap) (locs : List Loc) (ls : Array Slot), va_P (xsD X) vwCl (wM X mThrown mWorld mImage mDraft mEarlier mRemembered mHasImage mIsLaid o9 mTwo mShare mX mY mD mEventX mEventY mEventD mEvents mCrossingOf mBundle mEventOf mDegree mFrom mTo mCrossings mEdges mMet mUpper mLower mTape mTaped mPoint mEnd mBegin mFaultAt mFive mTold mActs mFar mViews mHullX mHullY mEndX mEndY mHeightUp mHeightLow mMeets mMeetsOf Rw) H → va_D (xsF X) (wM X mThrown mWorld mImage mDraft mEarlier mRemembered mHasImage mIsLaid o9 mTwo mShare mX mY mD mEventX mEventY mEventD mEvents mCrossingOf mBundle mEventOf mDegree mFrom mTo mCrossings mEdges mMet mUpper mLower mTape mTaped mPoint mEnd mBegin mFaultAt mFive mTold mActs mFar mViews mHullX mHullY mEndX mEndY mHeightUp mHeightLow mMeets mMeetsOf Rw) → va_S (xsF X) s.heap H locs → lv_has ls 5 [(0, .ref (xsA X 100)), (1, .int a0), (2, .int a1), (4, .int y2)] → W p l e { frames := 2, cells := 0, slots := 0, locals := 55 } s m ([.ref (xsA X 100), .int a0, .int a1] : List Value).toArray below meth c H locs 0 0 (MQ below Qq ([.ref (xsA X 100), .int a0, .int a1] : List Value).toArray s 0 0 (xsF X)) (F0 m 48 ls [.int y13, .int y1]) := by
        intro y13 hf H locs ls hP hD hS hl
        unfold fX11_whoHas_J48 at hf
        refine lv_ior hx hb dX11_whoHas_48 ?_
        refine lv_topi (fun x14 ex14 => ?_)
        replace hf := xsLt_use ex14 hf
        refine lv_istore_n (lv' := [(3, .int x14), (0, .ref (xsA X 100)), (1, .int a0), (2, .int a1), (4, .int y2)]) hx hb dX11_whoHas_49 rfl hl (by decide) rfl (fun ls hl => ?_)
        obtain ⟨x15, ex15⟩ : ∃ y : Int32, y = y2 + (1 : Int32) := ⟨_, rfl⟩
        replace hf := xsLt_use ex15 hf
        refine lv_iinc (v := x15) (lv' := [(4, .int x15), (3, .int x14), (0, .ref (xsA X 100)), (1, .int a0), (2, .int a1)]) hx hb dX11_whoHas_50 hl (k := 4) rfl (by rw [ex15]; rfl) (by decide) rfl (fun ls hl => ?_)
        refine lv_goto (tgt := 5) hx hb dX11_whoHas_53 (by decide) ?_
        exact ih4 _ (Option.some.inj hf).symm hk4 H locs ls hP hD hS (lv_sub hl [2, 3, 4, 1, 0] rfl)
      replace hf := xsBd_use hf
      obtain ⟨v16, hf, hk17⟩ := hf
      refine lv_if_eq (tgt := 47) hx hb dX11_whoHas_37 (by decide) (fun c19 => ?_) (fun c19 => ?_)
      · replace hf := xsBr_t c19 hf
        refine lv_iconst (v := (0 : Int32)) hx hb dX11_whoHas_47 (by decide) ?_
        have ev := Option.some.inj hf
        subst ev
        exact K18 (0 : Int32) hk17 H locs ls hP hD hS (lv_sub hl [0, 1, 2, 4] rfl)
      · replace hf := xsBr_f c19 hf
        refine lv_iconst (v := (1 : Int32)) hx hb dX11_whoHas_40 (by decide) ?_
        refine lv_iload hx hb dX11_whoHas_41 (lv_at hl 4 rfl) ?_
        refine lv_ishl hx hb dX11_whoHas_43 ?_
        refine lv_goto (tgt := 48) hx hb dX11_whoHas_44 (by decide) ?_
        have ev := Option.some.inj hf
        subst ev
        exact K18 ((1 : Int32) <<< (y2 &&& 31)) hk17 H locs ls hP hD hS (lv_sub hl [0, 1, 2, 4] rfl)
  exact L4 ((0 : Int32), (0 : Int32), mOne) r4 hk40 hf H locs ls hP hD hS (lv_sub hl [2, 3, 4, 1, 0] rfl)
