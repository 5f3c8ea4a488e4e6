section XSLB
variable {p : Program} {l : Launch} {e : Env} {R : Room} {s : State} {m : MethodId} {args : Array Value} {below : List Frame} {meth : Method} {c : Code} {H : Heap} {locs : List Loc} {cells slots mc ms C0 D0 b L nL nM n pc index : Nat} {Q : State → Prop} {xs : Nat → Int32}
variable {cc bb : ByteArray} {ls : Array Slot} {rest st As : List Value} {own : String} {X : xsX} {w : va_W} {y : MethodName} {ret : Option FieldType} {rm : Room} {Qc : Array Value → State → Outcome → State → Prop} {XC : String → State → State → Prop} {S : Nat → xsV} {Rw : va_W}
variable {kIsKept kIsStale hiLatest hiSize scLength scFault scAt scNumber piSegmentsNow enKind enFromX enFromY enToX enToY tiMeetingPairs tiAlongPairs tiSize evSize evCrossings evSegmentsNow grEdges grQueued huSize huBestX huBestY : Int32} {scBytes scTold tiTouching tiLyingAlong evBundle evCrossingOf evEventOf evLeftEvent evRightEvent grDegree grFar grQueue huX huY : Nat → Int32} {enX enY enLower : Int64} {evX evY evLower : Nat → Int64} {mThrown mRemembered mHasImage mIsLaid mEvents mCrossings mEdges mTaped mPoint mEnd mBegin mFaultAt mActs : Int32} {mWorld mImage mDraft mEarlier mOne mTwo mShare mCrossingOf mBundle mEventOf mDegree mFrom mTo mMet mTape mFive mTold mFar mViews mHullX mHullY mEndX mEndY mMeets mMeetsOf : Nat → Int32} {mX mY mD mHeightUp mHeightLow : Int64} {mEventX mEventY mEventD mUpper mLower : Nat → Int64} {ou : Nat → Int64}
set_option maxRecDepth 100000 in
set_option maxHeartbeats 8000000 in
theorem lc_sight {Rl : xsRel} (l : Launch) (hst : l.stackTraces = false) (hp : pc_sight Rl) {i v1 v2 v3 v4 v5 : Int32} (C : xsC p s m c cL_law #[.ref b] RL 8 X) (hX : va_X b L xs s s.heap) (hbz : b < xsZ X) (hbl : b < s.heap.size) (hi1 : vp_in (i + 1) L ∧ xs (i + 1).toNatClampNeg = v1) (hi2 : vp_in (i + 2) L ∧ xs (i + 2).toNatClampNeg = v2) (hi3 : vp_in (i + 3) L ∧ xs (i + 3).toNatClampNeg = v3) (hi4 : vp_in (i + 4) L ∧ xs (i + 4).toNatClampNeg = v4) (hi5 : vp_in (i + 5) L ∧ xs (i + 5).toNatClampNeg = v5) (hcs : xsRmC C0 D0) (hP : va_P (xsD X) vwCl (wK X kIsKept kIsStale hiLatest hiSize scBytes scTold scLength scFault scAt scNumber piSegmentsNow enKind enX enY enLower enFromX enFromY enToX enToY tiTouching tiLyingAlong tiMeetingPairs tiAlongPairs tiSize evX evY evLower evBundle evCrossingOf evEventOf evLeftEvent evRightEvent evSize evCrossings evSegmentsNow grDegree grEdges grFar grQueue grQueued huX huY huSize huBestX huBestY S (xsOc X ou :: wM X mThrown mWorld mImage mDraft mEarlier mRemembered mHasImage mIsLaid mOne mTwo mShare mX mY mD mEventX mEventY mEventD mEvents mCrossingOf mBundle mEventOf mDegree mFrom mTo mCrossings mEdges mMet mUpper mLower mTape mTaped mPoint mEnd mBegin mFaultAt mFive mTold mActs mFar mViews mHullX mHullY mEndX mEndY mHeightUp mHeightLow mMeets mMeetsOf [])) H) (hD : va_D (xsF X) (wK X kIsKept kIsStale hiLatest hiSize scBytes scTold scLength scFault scAt scNumber piSegmentsNow enKind enX enY enLower enFromX enFromY enToX enToY tiTouching tiLyingAlong tiMeetingPairs tiAlongPairs tiSize evX evY evLower evBundle evCrossingOf evEventOf evLeftEvent evRightEvent evSize evCrossings evSegmentsNow grDegree grEdges grFar grQueue grQueued huX huY huSize huBestX huBestY S (xsOc X ou :: wM X mThrown mWorld mImage mDraft mEarlier mRemembered mHasImage mIsLaid mOne mTwo mShare mX mY mD mEventX mEventY mEventD mEvents mCrossingOf mBundle mEventOf mDegree mFrom mTo mCrossings mEdges mMet mUpper mLower mTape mTaped mPoint mEnd mBegin mFaultAt mFive mTold mActs mFar mViews mHullX mHullY mEndX mEndY mHeightUp mHeightLow mMeets mMeetsOf []))) (hS : va_S (xsF X) s.heap H locs) (hl : lv_has ls 8 [(4, .int i), (3, .ref (xsA X 131)), (2, .ref (xsA X 100)), (1, .ref (xsA X 0)), (0, .ref b)]) (hR : Rl kIsKept kIsStale hiLatest hiSize scBytes scTold scLength scFault scAt scNumber piSegmentsNow enKind enX enY enLower enFromX enFromY enToX enToY tiTouching tiLyingAlong tiMeetingPairs tiAlongPairs tiSize evX evY evLower evBundle evCrossingOf evEventOf evLeftEvent evRightEvent evSize evCrossings evSegmentsNow grDegree grEdges grFar grQueue grQueued huX huY huSize huBestX huBestY S mThrown mWorld mImage mDraft mEarlier mRemembered mHasImage mIsLaid mOne mTwo mShare mX mY mD mEventX mEventY mEventD mEvents mCrossingOf mBundle mEventOf mDegree mFrom mTo mCrossings mEdges mMet mUpper mLower mTape mTaped mPoint mEnd mBegin mFaultAt mFive mTold mActs mFar mViews mHullX mHullY mEndX mEndY mHeightUp mHeightLow mMeets mMeetsOf)
    (kk : ∀ {kIsKept kIsStale hiLatest hiSize scLength scFault scAt scNumber piSegmentsNow enKind enFromX enFromY enToX enToY tiMeetingPairs tiAlongPairs tiSize evSize evCrossings evSegmentsNow grEdges grQueued huSize huBestX huBestY : Int32} {scBytes scTold tiTouching tiLyingAlong evBundle evCrossingOf evEventOf evLeftEvent evRightEvent grDegree grFar grQueue huX huY : Nat → Int32} {enX enY enLower : Int64} {evX evY evLower : Nat → Int64} {S : Nat → xsV} {mThrown mRemembered mHasImage mIsLaid mEvents mCrossings mEdges mTaped mPoint mEnd mBegin mFaultAt mActs : Int32} {mWorld mImage mDraft mEarlier mOne mTwo mShare mCrossingOf mBundle mEventOf mDegree mFrom mTo mMet mTape mFive mTold mFar mViews mHullX mHullY mEndX mEndY mMeets mMeetsOf : Nat → Int32} {mX mY mD mHeightUp mHeightLow : Int64} {mEventX mEventY mEventD mUpper mLower : Nat → Int64} {ou : Nat → Int64} {ls : Array Slot} {H : Heap} {locs : List Loc}, Rl kIsKept kIsStale hiLatest hiSize scBytes scTold scLength scFault scAt scNumber piSegmentsNow enKind enX enY enLower enFromX enFromY enToX enToY tiTouching tiLyingAlong tiMeetingPairs tiAlongPairs tiSize evX evY evLower evBundle evCrossingOf evEventOf evLeftEvent evRightEvent evSize evCrossings evSegmentsNow grDegree grEdges grFar grQueue grQueued huX huY huSize huBestX huBestY S mThrown mWorld mImage mDraft mEarlier mRemembered mHasImage mIsLaid mOne mTwo mShare mX mY mD mEventX mEventY mEventD mEvents mCrossingOf mBundle mEventOf mDegree mFrom mTo mCrossings mEdges mMet mUpper mLower mTape mTaped mPoint mEnd mBegin mFaultAt mFive mTold mActs mFar mViews mHullX mHullY mEndX mEndY mHeightUp mHeightLow mMeets mMeetsOf → va_P (xsD X) vwCl (wK X kIsKept kIsStale hiLatest hiSize scBytes scTold scLength scFault scAt scNumber piSegmentsNow enKind enX enY enLower enFromX enFromY enToX enToY tiTouching tiLyingAlong tiMeetingPairs tiAlongPairs tiSize evX evY evLower evBundle evCrossingOf evEventOf evLeftEvent evRightEvent evSize evCrossings evSegmentsNow grDegree grEdges grFar grQueue grQueued huX huY huSize huBestX huBestY S (xsOc X ou :: wM X mThrown mWorld mImage mDraft mEarlier mRemembered mHasImage mIsLaid mOne mTwo mShare mX mY mD mEventX mEventY mEventD mEvents mCrossingOf mBundle mEventOf mDegree mFrom mTo mCrossings mEdges mMet mUpper mLower mTape mTaped mPoint mEnd mBegin mFaultAt mFive mTold mActs mFar mViews mHullX mHullY mEndX mEndY mHeightUp mHeightLow mMeets mMeetsOf [])) H → va_D (xsF X) (wK X kIsKept kIsStale hiLatest hiSize scBytes scTold scLength scFault scAt scNumber piSegmentsNow enKind enX enY enLower enFromX enFromY enToX enToY tiTouching tiLyingAlong tiMeetingPairs tiAlongPairs tiSize evX evY evLower evBundle evCrossingOf evEventOf evLeftEvent evRightEvent evSize evCrossings evSegmentsNow grDegree grEdges grFar grQueue grQueued huX huY huSize huBestX huBestY S (xsOc X ou :: wM X mThrown mWorld mImage mDraft mEarlier mRemembered mHasImage mIsLaid mOne mTwo mShare mX mY mD mEventX mEventY mEventD mEvents mCrossingOf mBundle mEventOf mDegree mFrom mTo mCrossings mEdges mMet mUpper mLower mTape mTaped mPoint mEnd mBegin mFaultAt mFive mTold mActs mFar mViews mHullX mHullY mEndX mEndY mHeightUp mHeightLow mMeets mMeetsOf [])) → va_S (xsF X) s.heap H locs → lv_has ls 8 [(4, .int i), (3, .ref (xsA X 131)), (2, .ref (xsA X 100)), (1, .ref (xsA X 0)), (0, .ref b)] → W p l e room_1 s m #[.ref b] below meth c H locs (C0 + 5) (D0 + 30) Q (F0 m 2175 ls [])) :
    W p l e room_1 s m #[.ref b] below meth c H locs C0 D0 Q (F0 m 1874 ls []) := by
  have hx := C.1
  have hb := C.2.1
  obtain ⟨out, mo, ef, em, hor⟩ := hp hR v1 v2 v3 v4
  rcases hor with ⟨tt, eo, ea, et, hR⟩ | ⟨n, tt, eo, en, et, hR⟩
  · subst eo
    refine lv_aload_n hx hb dL_law_1874 rfl (lv_at hl 3 rfl) ?_
    refine lv_aload_n hx hb dL_law_1875 rfl (lv_at hl 4 rfl) ?_
    refine lv_iload hx hb dL_law_1876 (lv_at hl 0 rfl) ?_
    refine lv_iconst (v := (1 : Int32)) hx hb dL_law_1878 (by decide) ?_
    refine lv_iadd hx hb dL_law_1879 ?_
    refine xs_lld C hX hbz hbl hS hi1 dL_law_1880 ?_
    refine lv_aload_n hx hb dL_law_1881 rfl (lv_at hl 4 rfl) ?_
    refine lv_iload hx hb dL_law_1882 (lv_at hl 0 rfl) ?_
    refine lv_iconst (v := (2 : Int32)) hx hb dL_law_1884 (by decide) ?_
    refine lv_iadd hx hb dL_law_1885 ?_
    refine xs_lld C hX hbz hbl hS hi2 dL_law_1886 ?_
    refine lv_aload_n hx hb dL_law_1887 rfl (lv_at hl 4 rfl) ?_
    refine lv_iload hx hb dL_law_1888 (lv_at hl 0 rfl) ?_
    refine lv_iconst (v := (3 : Int32)) hx hb dL_law_1890 (by decide) ?_
    refine lv_iadd hx hb dL_law_1891 ?_
    refine xs_lld C hX hbz hbl hS hi3 dL_law_1892 ?_
    refine lv_aload_n hx hb dL_law_1893 rfl (lv_at hl 4 rfl) ?_
    refine lv_iload hx hb dL_law_1894 (lv_at hl 0 rfl) ?_
    refine lv_iconst (v := (4 : Int32)) hx hb dL_law_1896 (by decide) ?_
    refine lv_iadd hx hb dL_law_1897 ?_
    refine xs_lld C hX hbz hbl hS hi4 dL_law_1898 ?_
    refine lv_aload_n hx hb dL_law_1899 rfl (lv_at hl 1 rfl) ?_
    refine xs_lcalli hS (xs_lrunS (As := [.ref (xsA X 0), .int v1, .int v2, .int v3, .int v4, .ref (xsA X 131)]) (rest := []) C (mL_sight l hst (xs_eta (S 0)) (xs_eta (S 2)) ef (fun n tt h => by cases h)) w_1295 w_1296 w_104 w_1297 hd_L_sight (xsRmL hcs (by decide) (by decide) (by decide) (by decide)) hP hD hS hl.1 rfl (Nat.le_of_ble_eq_true rfl) dL_law_1900) (fun r u H locs hq hP hD hS => ?_)
    rcases hq with ⟨tx, e1, e2, e3⟩ | ⟨n, tx, e1, e2, e3⟩
    · cases e1
      subst e3
      subst e2
      refine lv_istore (lv' := [(5, .int 0), (4, .int i), (3, .ref (xsA X 131)), (2, .ref (xsA X 100)), (1, .ref (xsA X 0)), (0, .ref b)]) hx hb dL_law_1903 hl (by decide) rfl (fun ls hl => ?_)
      refine lv_aload_n hx hb dL_law_1905 rfl (lv_at hl 3 rfl) ?_
      refine lv_aload_n hx hb dL_law_1906 rfl (lv_at hl 5 rfl) ?_
      refine lv_iload hx hb dL_law_1907 (lv_at hl 1 rfl) ?_
      refine lv_iconst (v := (1 : Int32)) hx hb dL_law_1909 (by decide) ?_
      refine lv_iadd hx hb dL_law_1910 ?_
      refine xs_lld C hX hbz hbl hS hi1 dL_law_1911 ?_
      refine lv_aload_n hx hb dL_law_1912 rfl (lv_at hl 5 rfl) ?_
      refine lv_iload hx hb dL_law_1913 (lv_at hl 1 rfl) ?_
      refine lv_iconst (v := (2 : Int32)) hx hb dL_law_1915 (by decide) ?_
      refine lv_iadd hx hb dL_law_1916 ?_
      refine xs_lld C hX hbz hbl hS hi2 dL_law_1917 ?_
      refine lv_aload_n hx hb dL_law_1918 rfl (lv_at hl 5 rfl) ?_
      refine lv_iload hx hb dL_law_1919 (lv_at hl 1 rfl) ?_
      refine lv_iconst (v := (3 : Int32)) hx hb dL_law_1921 (by decide) ?_
      refine lv_iadd hx hb dL_law_1922 ?_
      refine xs_lld C hX hbz hbl hS hi3 dL_law_1923 ?_
      refine lv_aload_n hx hb dL_law_1924 rfl (lv_at hl 5 rfl) ?_
      refine lv_iload hx hb dL_law_1925 (lv_at hl 1 rfl) ?_
      refine lv_iconst (v := (4 : Int32)) hx hb dL_law_1927 (by decide) ?_
      refine lv_iadd hx hb dL_law_1928 ?_
      refine xs_lld C hX hbz hbl hS hi4 dL_law_1929 ?_
      replace hP := xs_toM hP
      replace hD := xs_toMD hD
      refine xs_calli hS (xs_runV (As := [.int v1, .int v2, .int v3, .int v4]) (rest := []) C (mX11_sight l em) w_1912 w_1913 w_1914 w_115 w_1915 hd_X11_sight (xsRmB hcs (by decide) (by decide) (by decide) (by decide)) hP hD hS lk_X11 rfl hl.1 rfl (Nat.le_of_ble_eq_true rfl) dL_law_1930) (fun H locs hP hD hS => ?_)
      refine lv_istore (lv' := [(6, .int mo.1), (5, .int 0), (4, .int i), (3, .ref (xsA X 131)), (2, .ref (xsA X 100)), (1, .ref (xsA X 0)), (0, .ref b)]) hx hb dL_law_1933 hl (by decide) rfl (fun ls hl => ?_)
      refine lv_aload_n hx hb dL_law_1935 rfl (lv_at hl 4 rfl) ?_
      refine xs_calli hS (xs_runV (As := []) (rest := []) C (mX11_thrown l rfl) w_1343 w_1344 w_1345 w_115 w_1346 hd_X11_thrown (xsRmB hcs (by decide) (by decide) (by decide) (by decide)) hP hD hS lk_X11 rfl hl.1 rfl (Nat.le_of_ble_eq_true rfl) dL_law_1936) (fun H locs hP hD hS => ?_)
      replace hP := xs_toK hP
      replace hD := xs_toKD hD
      refine lv_iload hx hb dL_law_1939 (lv_at hl 1 rfl) ?_
      refine lv_icmp_eq (tgt := 1946) hx hb dL_law_1941 (by decide) (fun _ => ?_) (fun q => absurd et q)
      refine lv_iload hx hb dL_law_1946 (lv_at hl 1 rfl) ?_
      refine lv_if_ne (tgt := 1963) hx hb dL_law_1948 (by decide) (fun q => absurd rfl q) (fun _ => ?_)
      refine lv_aload_n hx hb dL_law_1951 rfl (lv_at hl 3 rfl) ?_
      refine lv_iconst (v := (0 : Int32)) hx hb dL_law_1952 (by decide) ?_
      refine xs_lald C hP (q0 := 99) rfl (vp_in_nI (n := 0) (by decide) (by decide)) dL_law_1953 ?_
      refine lv_iload hx hb dL_law_1954 (lv_at hl 0 rfl) ?_
      refine lv_i2l hx hb dL_law_1956 rfl ?_
      refine xs_lcmp_eq (tgt := 1963) C dL_law_1957 dL_law_1958 (by decide) (fun _ => ?_) (fun q => absurd (xs_ou0 (congrArg Int32.toInt64 ea)) q)
      refine lv_goto (tgt := 2175) hx hb dL_law_1963 (by decide) ?_
      exact W.widen (Nat.add_le_add_left (by decide) _) (Nat.add_le_add_left (by decide) _) (kk hR hP hD hS (lv_sub hl [2, 3, 4, 5, 6] rfl))
    · cases e1
  · subst eo
    refine lv_aload_n hx hb dL_law_1874 rfl (lv_at hl 3 rfl) ?_
    refine lv_aload_n hx hb dL_law_1875 rfl (lv_at hl 4 rfl) ?_
    refine lv_iload hx hb dL_law_1876 (lv_at hl 0 rfl) ?_
    refine lv_iconst (v := (1 : Int32)) hx hb dL_law_1878 (by decide) ?_
    refine lv_iadd hx hb dL_law_1879 ?_
    refine xs_lld C hX hbz hbl hS hi1 dL_law_1880 ?_
    refine lv_aload_n hx hb dL_law_1881 rfl (lv_at hl 4 rfl) ?_
    refine lv_iload hx hb dL_law_1882 (lv_at hl 0 rfl) ?_
    refine lv_iconst (v := (2 : Int32)) hx hb dL_law_1884 (by decide) ?_
    refine lv_iadd hx hb dL_law_1885 ?_
    refine xs_lld C hX hbz hbl hS hi2 dL_law_1886 ?_
    refine lv_aload_n hx hb dL_law_1887 rfl (lv_at hl 4 rfl) ?_
    refine lv_iload hx hb dL_law_1888 (lv_at hl 0 rfl) ?_
    refine lv_iconst (v := (3 : Int32)) hx hb dL_law_1890 (by decide) ?_
    refine lv_iadd hx hb dL_law_1891 ?_
    refine xs_lld C hX hbz hbl hS hi3 dL_law_1892 ?_
    refine lv_aload_n hx hb dL_law_1893 rfl (lv_at hl 4 rfl) ?_
    refine lv_iload hx hb dL_law_1894 (lv_at hl 0 rfl) ?_
    refine lv_iconst (v := (4 : Int32)) hx hb dL_law_1896 (by decide) ?_
    refine lv_iadd hx hb dL_law_1897 ?_
    refine xs_lld C hX hbz hbl hS hi4 dL_law_1898 ?_
    refine lv_aload_n hx hb dL_law_1899 rfl (lv_at hl 1 rfl) ?_
    refine xs_lcalli hS (xs_lrunS (As := [.ref (xsA X 0), .int v1, .int v2, .int v3, .int v4, .ref (xsA X 131)]) (rest := []) C (mL_sight l hst (xs_eta (S 0)) (xs_eta (S 2)) ef (fun n2 t2 h => by cases h; exact en)) w_1295 w_1296 w_104 w_1297 hd_L_sight (xsRmL hcs (by decide) (by decide) (by decide) (by decide)) hP hD hS hl.1 rfl (Nat.le_of_ble_eq_true rfl) dL_law_1900) (fun r u H locs hq hP hD hS => ?_)
    rcases hq with ⟨tx, e1, e2, e3⟩ | ⟨n2, tx, e1, e2, e3⟩
    · cases e1
    · cases e1
      subst e3
      have ekn : ¬ r = 0 := by rw [e2]; rw [en]; decide
      replace et := et.trans e2.symm
      refine lv_istore (lv' := [(5, .int r), (4, .int i), (3, .ref (xsA X 131)), (2, .ref (xsA X 100)), (1, .ref (xsA X 0)), (0, .ref b)]) hx hb dL_law_1903 hl (by decide) rfl (fun ls hl => ?_)
      refine lv_aload_n hx hb dL_law_1905 rfl (lv_at hl 3 rfl) ?_
      refine lv_aload_n hx hb dL_law_1906 rfl (lv_at hl 5 rfl) ?_
      refine lv_iload hx hb dL_law_1907 (lv_at hl 1 rfl) ?_
      refine lv_iconst (v := (1 : Int32)) hx hb dL_law_1909 (by decide) ?_
      refine lv_iadd hx hb dL_law_1910 ?_
      refine xs_lld C hX hbz hbl hS hi1 dL_law_1911 ?_
      refine lv_aload_n hx hb dL_law_1912 rfl (lv_at hl 5 rfl) ?_
      refine lv_iload hx hb dL_law_1913 (lv_at hl 1 rfl) ?_
      refine lv_iconst (v := (2 : Int32)) hx hb dL_law_1915 (by decide) ?_
      refine lv_iadd hx hb dL_law_1916 ?_
      refine xs_lld C hX hbz hbl hS hi2 dL_law_1917 ?_
      refine lv_aload_n hx hb dL_law_1918 rfl (lv_at hl 5 rfl) ?_
      refine lv_iload hx hb dL_law_1919 (lv_at hl 1 rfl) ?_
      refine lv_iconst (v := (3 : Int32)) hx hb dL_law_1921 (by decide) ?_
      refine lv_iadd hx hb dL_law_1922 ?_
      refine xs_lld C hX hbz hbl hS hi3 dL_law_1923 ?_
      refine lv_aload_n hx hb dL_law_1924 rfl (lv_at hl 5 rfl) ?_
      refine lv_iload hx hb dL_law_1925 (lv_at hl 1 rfl) ?_
      refine lv_iconst (v := (4 : Int32)) hx hb dL_law_1927 (by decide) ?_
      refine lv_iadd hx hb dL_law_1928 ?_
      refine xs_lld C hX hbz hbl hS hi4 dL_law_1929 ?_
      replace hP := xs_toM hP
      replace hD := xs_toMD hD
      refine xs_calli hS (xs_runV (As := [.int v1, .int v2, .int v3, .int v4]) (rest := []) C (mX11_sight l em) w_1912 w_1913 w_1914 w_115 w_1915 hd_X11_sight (xsRmB hcs (by decide) (by decide) (by decide) (by decide)) hP hD hS lk_X11 rfl hl.1 rfl (Nat.le_of_ble_eq_true rfl) dL_law_1930) (fun H locs hP hD hS => ?_)
      refine lv_istore (lv' := [(6, .int mo.1), (5, .int r), (4, .int i), (3, .ref (xsA X 131)), (2, .ref (xsA X 100)), (1, .ref (xsA X 0)), (0, .ref b)]) hx hb dL_law_1933 hl (by decide) rfl (fun ls hl => ?_)
      refine lv_aload_n hx hb dL_law_1935 rfl (lv_at hl 4 rfl) ?_
      refine xs_calli hS (xs_runV (As := []) (rest := []) C (mX11_thrown l rfl) w_1343 w_1344 w_1345 w_115 w_1346 hd_X11_thrown (xsRmB hcs (by decide) (by decide) (by decide) (by decide)) hP hD hS lk_X11 rfl hl.1 rfl (Nat.le_of_ble_eq_true rfl) dL_law_1936) (fun H locs hP hD hS => ?_)
      replace hP := xs_toK hP
      replace hD := xs_toKD hD
      refine lv_iload hx hb dL_law_1939 (lv_at hl 1 rfl) ?_
      refine lv_icmp_eq (tgt := 1946) hx hb dL_law_1941 (by decide) (fun _ => ?_) (fun q => absurd et q)
      refine lv_iload hx hb dL_law_1946 (lv_at hl 1 rfl) ?_
      refine lv_if_ne (tgt := 1963) hx hb dL_law_1948 (by decide) (fun _ => ?_) (fun q => absurd q (ekn))
      refine lv_goto (tgt := 2175) hx hb dL_law_1963 (by decide) ?_
      exact W.widen (Nat.add_le_add_left (by decide) _) (Nat.add_le_add_left (by decide) _) (kk hR hP hD hS (lv_sub hl [2, 3, 4, 5, 6] rfl))
set_option maxRecDepth 100000 in
set_option maxHeartbeats 8000000 in
theorem lc_box {Rl : xsRel} (l : Launch) (hst : l.stackTraces = false) (hp : pc_box Rl) {i v1 v2 v3 v4 v5 : Int32} (C : xsC p s m c cL_law #[.ref b] RL 8 X) (hX : va_X b L xs s s.heap) (hbz : b < xsZ X) (hbl : b < s.heap.size) (hi1 : vp_in (i + 1) L ∧ xs (i + 1).toNatClampNeg = v1) (hi2 : vp_in (i + 2) L ∧ xs (i + 2).toNatClampNeg = v2) (hi3 : vp_in (i + 3) L ∧ xs (i + 3).toNatClampNeg = v3) (hi4 : vp_in (i + 4) L ∧ xs (i + 4).toNatClampNeg = v4) (hi5 : vp_in (i + 5) L ∧ xs (i + 5).toNatClampNeg = v5) (hcs : xsRmC C0 D0) (hP : va_P (xsD X) vwCl (wK X kIsKept kIsStale hiLatest hiSize scBytes scTold scLength scFault scAt scNumber piSegmentsNow enKind enX enY enLower enFromX enFromY enToX enToY tiTouching tiLyingAlong tiMeetingPairs tiAlongPairs tiSize evX evY evLower evBundle evCrossingOf evEventOf evLeftEvent evRightEvent evSize evCrossings evSegmentsNow grDegree grEdges grFar grQueue grQueued huX huY huSize huBestX huBestY S (xsOc X ou :: wM X mThrown mWorld mImage mDraft mEarlier mRemembered mHasImage mIsLaid mOne mTwo mShare mX mY mD mEventX mEventY mEventD mEvents mCrossingOf mBundle mEventOf mDegree mFrom mTo mCrossings mEdges mMet mUpper mLower mTape mTaped mPoint mEnd mBegin mFaultAt mFive mTold mActs mFar mViews mHullX mHullY mEndX mEndY mHeightUp mHeightLow mMeets mMeetsOf [])) H) (hD : va_D (xsF X) (wK X kIsKept kIsStale hiLatest hiSize scBytes scTold scLength scFault scAt scNumber piSegmentsNow enKind enX enY enLower enFromX enFromY enToX enToY tiTouching tiLyingAlong tiMeetingPairs tiAlongPairs tiSize evX evY evLower evBundle evCrossingOf evEventOf evLeftEvent evRightEvent evSize evCrossings evSegmentsNow grDegree grEdges grFar grQueue grQueued huX huY huSize huBestX huBestY S (xsOc X ou :: wM X mThrown mWorld mImage mDraft mEarlier mRemembered mHasImage mIsLaid mOne mTwo mShare mX mY mD mEventX mEventY mEventD mEvents mCrossingOf mBundle mEventOf mDegree mFrom mTo mCrossings mEdges mMet mUpper mLower mTape mTaped mPoint mEnd mBegin mFaultAt mFive mTold mActs mFar mViews mHullX mHullY mEndX mEndY mHeightUp mHeightLow mMeets mMeetsOf []))) (hS : va_S (xsF X) s.heap H locs) (hl : lv_has ls 8 [(4, .int i), (3, .ref (xsA X 131)), (2, .ref (xsA X 100)), (1, .ref (xsA X 0)), (0, .ref b)]) (hR : Rl kIsKept kIsStale hiLatest hiSize scBytes scTold scLength scFault scAt scNumber piSegmentsNow enKind enX enY enLower enFromX enFromY enToX enToY tiTouching tiLyingAlong tiMeetingPairs tiAlongPairs tiSize evX evY evLower evBundle evCrossingOf evEventOf evLeftEvent evRightEvent evSize evCrossings evSegmentsNow grDegree grEdges grFar grQueue grQueued huX huY huSize huBestX huBestY S mThrown mWorld mImage mDraft mEarlier mRemembered mHasImage mIsLaid mOne mTwo mShare mX mY mD mEventX mEventY mEventD mEvents mCrossingOf mBundle mEventOf mDegree mFrom mTo mCrossings mEdges mMet mUpper mLower mTape mTaped mPoint mEnd mBegin mFaultAt mFive mTold mActs mFar mViews mHullX mHullY mEndX mEndY mHeightUp mHeightLow mMeets mMeetsOf)
    (kk : ∀ {kIsKept kIsStale hiLatest hiSize scLength scFault scAt scNumber piSegmentsNow enKind enFromX enFromY enToX enToY tiMeetingPairs tiAlongPairs tiSize evSize evCrossings evSegmentsNow grEdges grQueued huSize huBestX huBestY : Int32} {scBytes scTold tiTouching tiLyingAlong evBundle evCrossingOf evEventOf evLeftEvent evRightEvent grDegree grFar grQueue huX huY : Nat → Int32} {enX enY enLower : Int64} {evX evY evLower : Nat → Int64} {S : Nat → xsV} {mThrown mRemembered mHasImage mIsLaid mEvents mCrossings mEdges mTaped mPoint mEnd mBegin mFaultAt mActs : Int32} {mWorld mImage mDraft mEarlier mOne mTwo mShare mCrossingOf mBundle mEventOf mDegree mFrom mTo mMet mTape mFive mTold mFar mViews mHullX mHullY mEndX mEndY mMeets mMeetsOf : Nat → Int32} {mX mY mD mHeightUp mHeightLow : Int64} {mEventX mEventY mEventD mUpper mLower : Nat → Int64} {ou : Nat → Int64} {ls : Array Slot} {H : Heap} {locs : List Loc}, Rl kIsKept kIsStale hiLatest hiSize scBytes scTold scLength scFault scAt scNumber piSegmentsNow enKind enX enY enLower enFromX enFromY enToX enToY tiTouching tiLyingAlong tiMeetingPairs tiAlongPairs tiSize evX evY evLower evBundle evCrossingOf evEventOf evLeftEvent evRightEvent evSize evCrossings evSegmentsNow grDegree grEdges grFar grQueue grQueued huX huY huSize huBestX huBestY S mThrown mWorld mImage mDraft mEarlier mRemembered mHasImage mIsLaid mOne mTwo mShare mX mY mD mEventX mEventY mEventD mEvents mCrossingOf mBundle mEventOf mDegree mFrom mTo mCrossings mEdges mMet mUpper mLower mTape mTaped mPoint mEnd mBegin mFaultAt mFive mTold mActs mFar mViews mHullX mHullY mEndX mEndY mHeightUp mHeightLow mMeets mMeetsOf → va_P (xsD X) vwCl (wK X kIsKept kIsStale hiLatest hiSize scBytes scTold scLength scFault scAt scNumber piSegmentsNow enKind enX enY enLower enFromX enFromY enToX enToY tiTouching tiLyingAlong tiMeetingPairs tiAlongPairs tiSize evX evY evLower evBundle evCrossingOf evEventOf evLeftEvent evRightEvent evSize evCrossings evSegmentsNow grDegree grEdges grFar grQueue grQueued huX huY huSize huBestX huBestY S (xsOc X ou :: wM X mThrown mWorld mImage mDraft mEarlier mRemembered mHasImage mIsLaid mOne mTwo mShare mX mY mD mEventX mEventY mEventD mEvents mCrossingOf mBundle mEventOf mDegree mFrom mTo mCrossings mEdges mMet mUpper mLower mTape mTaped mPoint mEnd mBegin mFaultAt mFive mTold mActs mFar mViews mHullX mHullY mEndX mEndY mHeightUp mHeightLow mMeets mMeetsOf [])) H → va_D (xsF X) (wK X kIsKept kIsStale hiLatest hiSize scBytes scTold scLength scFault scAt scNumber piSegmentsNow enKind enX enY enLower enFromX enFromY enToX enToY tiTouching tiLyingAlong tiMeetingPairs tiAlongPairs tiSize evX evY evLower evBundle evCrossingOf evEventOf evLeftEvent evRightEvent evSize evCrossings evSegmentsNow grDegree grEdges grFar grQueue grQueued huX huY huSize huBestX huBestY S (xsOc X ou :: wM X mThrown mWorld mImage mDraft mEarlier mRemembered mHasImage mIsLaid mOne mTwo mShare mX mY mD mEventX mEventY mEventD mEvents mCrossingOf mBundle mEventOf mDegree mFrom mTo mCrossings mEdges mMet mUpper mLower mTape mTaped mPoint mEnd mBegin mFaultAt mFive mTold mActs mFar mViews mHullX mHullY mEndX mEndY mHeightUp mHeightLow mMeets mMeetsOf [])) → va_S (xsF X) s.heap H locs → lv_has ls 8 [(4, .int i), (3, .ref (xsA X 131)), (2, .ref (xsA X 100)), (1, .ref (xsA X 0)), (0, .ref b)] → W p l e room_1 s m #[.ref b] below meth c H locs (C0 + 5) (D0 + 30) Q (F0 m 2175 ls [])) :
    W p l e room_1 s m #[.ref b] below meth c H locs C0 D0 Q (F0 m 1966 ls []) := by
  have hx := C.1
  have hb := C.2.1
  obtain ⟨out, mo, ef, em, hor⟩ := hp hR v1 v2 v3 v4
  rcases hor with ⟨tt, eo, ea, et, hR⟩ | ⟨n, tt, eo, en, et, hR⟩
  · subst eo
    refine lv_aload_n hx hb dL_law_1966 rfl (lv_at hl 3 rfl) ?_
    refine lv_aload_n hx hb dL_law_1967 rfl (lv_at hl 4 rfl) ?_
    refine lv_iload hx hb dL_law_1968 (lv_at hl 0 rfl) ?_
    refine lv_iconst (v := (1 : Int32)) hx hb dL_law_1970 (by decide) ?_
    refine lv_iadd hx hb dL_law_1971 ?_
    refine xs_lld C hX hbz hbl hS hi1 dL_law_1972 ?_
    refine lv_aload_n hx hb dL_law_1973 rfl (lv_at hl 4 rfl) ?_
    refine lv_iload hx hb dL_law_1974 (lv_at hl 0 rfl) ?_
    refine lv_iconst (v := (2 : Int32)) hx hb dL_law_1976 (by decide) ?_
    refine lv_iadd hx hb dL_law_1977 ?_
    refine xs_lld C hX hbz hbl hS hi2 dL_law_1978 ?_
    refine lv_aload_n hx hb dL_law_1979 rfl (lv_at hl 4 rfl) ?_
    refine lv_iload hx hb dL_law_1980 (lv_at hl 0 rfl) ?_
    refine lv_iconst (v := (3 : Int32)) hx hb dL_law_1982 (by decide) ?_
    refine lv_iadd hx hb dL_law_1983 ?_
    refine xs_lld C hX hbz hbl hS hi3 dL_law_1984 ?_
    refine lv_aload_n hx hb dL_law_1985 rfl (lv_at hl 4 rfl) ?_
    refine lv_iload hx hb dL_law_1986 (lv_at hl 0 rfl) ?_
    refine lv_iconst (v := (4 : Int32)) hx hb dL_law_1988 (by decide) ?_
    refine lv_iadd hx hb dL_law_1989 ?_
    refine xs_lld C hX hbz hbl hS hi4 dL_law_1990 ?_
    refine lv_aload_n hx hb dL_law_1991 rfl (lv_at hl 1 rfl) ?_
    refine xs_lcalli hS (xs_lrunS (As := [.ref (xsA X 0), .int v1, .int v2, .int v3, .int v4, .ref (xsA X 131)]) (rest := []) C (mL_box l hst (xs_eta (S 0)) ef (fun n tt h => by cases h)) w_1314 w_1315 w_104 w_1316 hd_L_box (xsRmL hcs (by decide) (by decide) (by decide) (by decide)) hP hD hS hl.1 rfl (Nat.le_of_ble_eq_true rfl) dL_law_1992) (fun r u H locs hq hP hD hS => ?_)
    rcases hq with ⟨tx, e1, e2, e3⟩ | ⟨n, tx, e1, e2, e3⟩
    · cases e1
      subst e3
      subst e2
      refine lv_istore (lv' := [(5, .int 0), (4, .int i), (3, .ref (xsA X 131)), (2, .ref (xsA X 100)), (1, .ref (xsA X 0)), (0, .ref b)]) hx hb dL_law_1995 hl (by decide) rfl (fun ls hl => ?_)
      refine lv_aload_n hx hb dL_law_1997 rfl (lv_at hl 3 rfl) ?_
      refine lv_aload_n hx hb dL_law_1998 rfl (lv_at hl 5 rfl) ?_
      refine lv_iload hx hb dL_law_1999 (lv_at hl 1 rfl) ?_
      refine lv_iconst (v := (1 : Int32)) hx hb dL_law_2001 (by decide) ?_
      refine lv_iadd hx hb dL_law_2002 ?_
      refine xs_lld C hX hbz hbl hS hi1 dL_law_2003 ?_
      refine lv_aload_n hx hb dL_law_2004 rfl (lv_at hl 5 rfl) ?_
      refine lv_iload hx hb dL_law_2005 (lv_at hl 1 rfl) ?_
      refine lv_iconst (v := (2 : Int32)) hx hb dL_law_2007 (by decide) ?_
      refine lv_iadd hx hb dL_law_2008 ?_
      refine xs_lld C hX hbz hbl hS hi2 dL_law_2009 ?_
      refine lv_aload_n hx hb dL_law_2010 rfl (lv_at hl 5 rfl) ?_
      refine lv_iload hx hb dL_law_2011 (lv_at hl 1 rfl) ?_
      refine lv_iconst (v := (3 : Int32)) hx hb dL_law_2013 (by decide) ?_
      refine lv_iadd hx hb dL_law_2014 ?_
      refine xs_lld C hX hbz hbl hS hi3 dL_law_2015 ?_
      refine lv_aload_n hx hb dL_law_2016 rfl (lv_at hl 5 rfl) ?_
      refine lv_iload hx hb dL_law_2017 (lv_at hl 1 rfl) ?_
      refine lv_iconst (v := (4 : Int32)) hx hb dL_law_2019 (by decide) ?_
      refine lv_iadd hx hb dL_law_2020 ?_
      refine xs_lld C hX hbz hbl hS hi4 dL_law_2021 ?_
      replace hP := xs_toM hP
      replace hD := xs_toMD hD
      refine xs_calli hS (xs_runV (As := [.int v1, .int v2, .int v3, .int v4]) (rest := []) C (mX11_box l em) w_1925 w_1926 w_1927 w_115 w_1928 hd_X11_box (xsRmB hcs (by decide) (by decide) (by decide) (by decide)) hP hD hS lk_X11 rfl hl.1 rfl (Nat.le_of_ble_eq_true rfl) dL_law_2022) (fun H locs hP hD hS => ?_)
      refine lv_istore (lv' := [(6, .int mo.1), (5, .int 0), (4, .int i), (3, .ref (xsA X 131)), (2, .ref (xsA X 100)), (1, .ref (xsA X 0)), (0, .ref b)]) hx hb dL_law_2025 hl (by decide) rfl (fun ls hl => ?_)
      refine lv_aload_n hx hb dL_law_2027 rfl (lv_at hl 4 rfl) ?_
      refine xs_calli hS (xs_runV (As := []) (rest := []) C (mX11_thrown l rfl) w_1343 w_1344 w_1345 w_115 w_1346 hd_X11_thrown (xsRmB hcs (by decide) (by decide) (by decide) (by decide)) hP hD hS lk_X11 rfl hl.1 rfl (Nat.le_of_ble_eq_true rfl) dL_law_2028) (fun H locs hP hD hS => ?_)
      replace hP := xs_toK hP
      replace hD := xs_toKD hD
      refine lv_iload hx hb dL_law_2031 (lv_at hl 1 rfl) ?_
      refine lv_icmp_eq (tgt := 2038) hx hb dL_law_2033 (by decide) (fun _ => ?_) (fun q => absurd et q)
      refine lv_iload hx hb dL_law_2038 (lv_at hl 1 rfl) ?_
      refine lv_if_ne (tgt := 2055) hx hb dL_law_2040 (by decide) (fun q => absurd rfl q) (fun _ => ?_)
      refine lv_aload_n hx hb dL_law_2043 rfl (lv_at hl 3 rfl) ?_
      refine lv_iconst (v := (0 : Int32)) hx hb dL_law_2044 (by decide) ?_
      refine xs_lald C hP (q0 := 99) rfl (vp_in_nI (n := 0) (by decide) (by decide)) dL_law_2045 ?_
      refine lv_iload hx hb dL_law_2046 (lv_at hl 0 rfl) ?_
      refine lv_i2l hx hb dL_law_2048 rfl ?_
      refine xs_lcmp_eq (tgt := 2055) C dL_law_2049 dL_law_2050 (by decide) (fun _ => ?_) (fun q => absurd (xs_ou0 (congrArg Int32.toInt64 ea)) q)
      refine lv_goto (tgt := 2175) hx hb dL_law_2055 (by decide) ?_
      exact W.widen (Nat.add_le_add_left (by decide) _) (Nat.add_le_add_left (by decide) _) (kk hR hP hD hS (lv_sub hl [2, 3, 4, 5, 6] rfl))
    · cases e1
  · subst eo
    refine lv_aload_n hx hb dL_law_1966 rfl (lv_at hl 3 rfl) ?_
    refine lv_aload_n hx hb dL_law_1967 rfl (lv_at hl 4 rfl) ?_
    refine lv_iload hx hb dL_law_1968 (lv_at hl 0 rfl) ?_
    refine lv_iconst (v := (1 : Int32)) hx hb dL_law_1970 (by decide) ?_
    refine lv_iadd hx hb dL_law_1971 ?_
    refine xs_lld C hX hbz hbl hS hi1 dL_law_1972 ?_
    refine lv_aload_n hx hb dL_law_1973 rfl (lv_at hl 4 rfl) ?_
    refine lv_iload hx hb dL_law_1974 (lv_at hl 0 rfl) ?_
    refine lv_iconst (v := (2 : Int32)) hx hb dL_law_1976 (by decide) ?_
    refine lv_iadd hx hb dL_law_1977 ?_
    refine xs_lld C hX hbz hbl hS hi2 dL_law_1978 ?_
    refine lv_aload_n hx hb dL_law_1979 rfl (lv_at hl 4 rfl) ?_
    refine lv_iload hx hb dL_law_1980 (lv_at hl 0 rfl) ?_
    refine lv_iconst (v := (3 : Int32)) hx hb dL_law_1982 (by decide) ?_
    refine lv_iadd hx hb dL_law_1983 ?_
    refine xs_lld C hX hbz hbl hS hi3 dL_law_1984 ?_
    refine lv_aload_n hx hb dL_law_1985 rfl (lv_at hl 4 rfl) ?_
    refine lv_iload hx hb dL_law_1986 (lv_at hl 0 rfl) ?_
    refine lv_iconst (v := (4 : Int32)) hx hb dL_law_1988 (by decide) ?_
    refine lv_iadd hx hb dL_law_1989 ?_
    refine xs_lld C hX hbz hbl hS hi4 dL_law_1990 ?_
    refine lv_aload_n hx hb dL_law_1991 rfl (lv_at hl 1 rfl) ?_
    refine xs_lcalli hS (xs_lrunS (As := [.ref (xsA X 0), .int v1, .int v2, .int v3, .int v4, .ref (xsA X 131)]) (rest := []) C (mL_box l hst (xs_eta (S 0)) ef (fun n2 t2 h => by cases h; exact en)) w_1314 w_1315 w_104 w_1316 hd_L_box (xsRmL hcs (by decide) (by decide) (by decide) (by decide)) hP hD hS hl.1 rfl (Nat.le_of_ble_eq_true rfl) dL_law_1992) (fun r u H locs hq hP hD hS => ?_)
    rcases hq with ⟨tx, e1, e2, e3⟩ | ⟨n2, tx, e1, e2, e3⟩
    · cases e1
    · cases e1
      subst e3
      have ekn : ¬ r = 0 := by rw [e2]; rw [en]; decide
      replace et := et.trans e2.symm
      refine lv_istore (lv' := [(5, .int r), (4, .int i), (3, .ref (xsA X 131)), (2, .ref (xsA X 100)), (1, .ref (xsA X 0)), (0, .ref b)]) hx hb dL_law_1995 hl (by decide) rfl (fun ls hl => ?_)
      refine lv_aload_n hx hb dL_law_1997 rfl (lv_at hl 3 rfl) ?_
      refine lv_aload_n hx hb dL_law_1998 rfl (lv_at hl 5 rfl) ?_
      refine lv_iload hx hb dL_law_1999 (lv_at hl 1 rfl) ?_
      refine lv_iconst (v := (1 : Int32)) hx hb dL_law_2001 (by decide) ?_
      refine lv_iadd hx hb dL_law_2002 ?_
      refine xs_lld C hX hbz hbl hS hi1 dL_law_2003 ?_
      refine lv_aload_n hx hb dL_law_2004 rfl (lv_at hl 5 rfl) ?_
      refine lv_iload hx hb dL_law_2005 (lv_at hl 1 rfl) ?_
      refine lv_iconst (v := (2 : Int32)) hx hb dL_law_2007 (by decide) ?_
      refine lv_iadd hx hb dL_law_2008 ?_
      refine xs_lld C hX hbz hbl hS hi2 dL_law_2009 ?_
      refine lv_aload_n hx hb dL_law_2010 rfl (lv_at hl 5 rfl) ?_
      refine lv_iload hx hb dL_law_2011 (lv_at hl 1 rfl) ?_
      refine lv_iconst (v := (3 : Int32)) hx hb dL_law_2013 (by decide) ?_
      refine lv_iadd hx hb dL_law_2014 ?_
      refine xs_lld C hX hbz hbl hS hi3 dL_law_2015 ?_
      refine lv_aload_n hx hb dL_law_2016 rfl (lv_at hl 5 rfl) ?_
      refine lv_iload hx hb dL_law_2017 (lv_at hl 1 rfl) ?_
      refine lv_iconst (v := (4 : Int32)) hx hb dL_law_2019 (by decide) ?_
      refine lv_iadd hx hb dL_law_2020 ?_
      refine xs_lld C hX hbz hbl hS hi4 dL_law_2021 ?_
      replace hP := xs_toM hP
      replace hD := xs_toMD hD
      refine xs_calli hS (xs_runV (As := [.int v1, .int v2, .int v3, .int v4]) (rest := []) C (mX11_box l em) w_1925 w_1926 w_1927 w_115 w_1928 hd_X11_box (xsRmB hcs (by decide) (by decide) (by decide) (by decide)) hP hD hS lk_X11 rfl hl.1 rfl (Nat.le_of_ble_eq_true rfl) dL_law_2022) (fun H locs hP hD hS => ?_)
      refine lv_istore (lv' := [(6, .int mo.1), (5, .int r), (4, .int i), (3, .ref (xsA X 131)), (2, .ref (xsA X 100)), (1, .ref (xsA X 0)), (0, .ref b)]) hx hb dL_law_2025 hl (by decide) rfl (fun ls hl => ?_)
      refine lv_aload_n hx hb dL_law_2027 rfl (lv_at hl 4 rfl) ?_
      refine xs_calli hS (xs_runV (As := []) (rest := []) C (mX11_thrown l rfl) w_1343 w_1344 w_1345 w_115 w_1346 hd_X11_thrown (xsRmB hcs (by decide) (by decide) (by decide) (by decide)) hP hD hS lk_X11 rfl hl.1 rfl (Nat.le_of_ble_eq_true rfl) dL_law_2028) (fun H locs hP hD hS => ?_)
      replace hP := xs_toK hP
      replace hD := xs_toKD hD
      refine lv_iload hx hb dL_law_2031 (lv_at hl 1 rfl) ?_
      refine lv_icmp_eq (tgt := 2038) hx hb dL_law_2033 (by decide) (fun _ => ?_) (fun q => absurd et q)
      refine lv_iload hx hb dL_law_2038 (lv_at hl 1 rfl) ?_
      refine lv_if_ne (tgt := 2055) hx hb dL_law_2040 (by decide) (fun _ => ?_) (fun q => absurd q (ekn))
      refine lv_goto (tgt := 2175) hx hb dL_law_2055 (by decide) ?_
      exact W.widen (Nat.add_le_add_left (by decide) _) (Nat.add_le_add_left (by decide) _) (kk hR hP hD hS (lv_sub hl [2, 3, 4, 5, 6] rfl))
set_option maxRecDepth 100000 in
set_option maxHeartbeats 8000000 in
theorem lc_tinted {Rl : xsRel} (l : Launch) (hst : l.stackTraces = false) (hp : pc_tinted Rl) {i v1 v2 v3 v4 v5 : Int32} (C : xsC p s m c cL_law #[.ref b] RL 8 X) (hX : va_X b L xs s s.heap) (hbz : b < xsZ X) (hbl : b < s.heap.size) (hi1 : vp_in (i + 1) L ∧ xs (i + 1).toNatClampNeg = v1) (hi2 : vp_in (i + 2) L ∧ xs (i + 2).toNatClampNeg = v2) (hi3 : vp_in (i + 3) L ∧ xs (i + 3).toNatClampNeg = v3) (hi4 : vp_in (i + 4) L ∧ xs (i + 4).toNatClampNeg = v4) (hi5 : vp_in (i + 5) L ∧ xs (i + 5).toNatClampNeg = v5) (hcs : xsRmC C0 D0) (hP : va_P (xsD X) vwCl (wK X kIsKept kIsStale hiLatest hiSize scBytes scTold scLength scFault scAt scNumber piSegmentsNow enKind enX enY enLower enFromX enFromY enToX enToY tiTouching tiLyingAlong tiMeetingPairs tiAlongPairs tiSize evX evY evLower evBundle evCrossingOf evEventOf evLeftEvent evRightEvent evSize evCrossings evSegmentsNow grDegree grEdges grFar grQueue grQueued huX huY huSize huBestX huBestY S (xsOc X ou :: wM X mThrown mWorld mImage mDraft mEarlier mRemembered mHasImage mIsLaid mOne mTwo mShare mX mY mD mEventX mEventY mEventD mEvents mCrossingOf mBundle mEventOf mDegree mFrom mTo mCrossings mEdges mMet mUpper mLower mTape mTaped mPoint mEnd mBegin mFaultAt mFive mTold mActs mFar mViews mHullX mHullY mEndX mEndY mHeightUp mHeightLow mMeets mMeetsOf [])) H) (hD : va_D (xsF X) (wK X kIsKept kIsStale hiLatest hiSize scBytes scTold scLength scFault scAt scNumber piSegmentsNow enKind enX enY enLower enFromX enFromY enToX enToY tiTouching tiLyingAlong tiMeetingPairs tiAlongPairs tiSize evX evY evLower evBundle evCrossingOf evEventOf evLeftEvent evRightEvent evSize evCrossings evSegmentsNow grDegree grEdges grFar grQueue grQueued huX huY huSize huBestX huBestY S (xsOc X ou :: wM X mThrown mWorld mImage mDraft mEarlier mRemembered mHasImage mIsLaid mOne mTwo mShare mX mY mD mEventX mEventY mEventD mEvents mCrossingOf mBundle mEventOf mDegree mFrom mTo mCrossings mEdges mMet mUpper mLower mTape mTaped mPoint mEnd mBegin mFaultAt mFive mTold mActs mFar mViews mHullX mHullY mEndX mEndY mHeightUp mHeightLow mMeets mMeetsOf []))) (hS : va_S (xsF X) s.heap H locs) (hl : lv_has ls 8 [(4, .int i), (3, .ref (xsA X 131)), (2, .ref (xsA X 100)), (1, .ref (xsA X 0)), (0, .ref b)]) (hR : Rl kIsKept kIsStale hiLatest hiSize scBytes scTold scLength scFault scAt scNumber piSegmentsNow enKind enX enY enLower enFromX enFromY enToX enToY tiTouching tiLyingAlong tiMeetingPairs tiAlongPairs tiSize evX evY evLower evBundle evCrossingOf evEventOf evLeftEvent evRightEvent evSize evCrossings evSegmentsNow grDegree grEdges grFar grQueue grQueued huX huY huSize huBestX huBestY S mThrown mWorld mImage mDraft mEarlier mRemembered mHasImage mIsLaid mOne mTwo mShare mX mY mD mEventX mEventY mEventD mEvents mCrossingOf mBundle mEventOf mDegree mFrom mTo mCrossings mEdges mMet mUpper mLower mTape mTaped mPoint mEnd mBegin mFaultAt mFive mTold mActs mFar mViews mHullX mHullY mEndX mEndY mHeightUp mHeightLow mMeets mMeetsOf)
    (kk : ∀ {kIsKept kIsStale hiLatest hiSize scLength scFault scAt scNumber piSegmentsNow enKind enFromX enFromY enToX enToY tiMeetingPairs tiAlongPairs tiSize evSize evCrossings evSegmentsNow grEdges grQueued huSize huBestX huBestY : Int32} {scBytes scTold tiTouching tiLyingAlong evBundle evCrossingOf evEventOf evLeftEvent evRightEvent grDegree grFar grQueue huX huY : Nat → Int32} {enX enY enLower : Int64} {evX evY evLower : Nat → Int64} {S : Nat → xsV} {mThrown mRemembered mHasImage mIsLaid mEvents mCrossings mEdges mTaped mPoint mEnd mBegin mFaultAt mActs : Int32} {mWorld mImage mDraft mEarlier mOne mTwo mShare mCrossingOf mBundle mEventOf mDegree mFrom mTo mMet mTape mFive mTold mFar mViews mHullX mHullY mEndX mEndY mMeets mMeetsOf : Nat → Int32} {mX mY mD mHeightUp mHeightLow : Int64} {mEventX mEventY mEventD mUpper mLower : Nat → Int64} {ou : Nat → Int64} {ls : Array Slot} {H : Heap} {locs : List Loc}, Rl kIsKept kIsStale hiLatest hiSize scBytes scTold scLength scFault scAt scNumber piSegmentsNow enKind enX enY enLower enFromX enFromY enToX enToY tiTouching tiLyingAlong tiMeetingPairs tiAlongPairs tiSize evX evY evLower evBundle evCrossingOf evEventOf evLeftEvent evRightEvent evSize evCrossings evSegmentsNow grDegree grEdges grFar grQueue grQueued huX huY huSize huBestX huBestY S mThrown mWorld mImage mDraft mEarlier mRemembered mHasImage mIsLaid mOne mTwo mShare mX mY mD mEventX mEventY mEventD mEvents mCrossingOf mBundle mEventOf mDegree mFrom mTo mCrossings mEdges mMet mUpper mLower mTape mTaped mPoint mEnd mBegin mFaultAt mFive mTold mActs mFar mViews mHullX mHullY mEndX mEndY mHeightUp mHeightLow mMeets mMeetsOf → va_P (xsD X) vwCl (wK X kIsKept kIsStale hiLatest hiSize scBytes scTold scLength scFault scAt scNumber piSegmentsNow enKind enX enY enLower enFromX enFromY enToX enToY tiTouching tiLyingAlong tiMeetingPairs tiAlongPairs tiSize evX evY evLower evBundle evCrossingOf evEventOf evLeftEvent evRightEvent evSize evCrossings evSegmentsNow grDegree grEdges grFar grQueue grQueued huX huY huSize huBestX huBestY S (xsOc X ou :: wM X mThrown mWorld mImage mDraft mEarlier mRemembered mHasImage mIsLaid mOne mTwo mShare mX mY mD mEventX mEventY mEventD mEvents mCrossingOf mBundle mEventOf mDegree mFrom mTo mCrossings mEdges mMet mUpper mLower mTape mTaped mPoint mEnd mBegin mFaultAt mFive mTold mActs mFar mViews mHullX mHullY mEndX mEndY mHeightUp mHeightLow mMeets mMeetsOf [])) H → va_D (xsF X) (wK X kIsKept kIsStale hiLatest hiSize scBytes scTold scLength scFault scAt scNumber piSegmentsNow enKind enX enY enLower enFromX enFromY enToX enToY tiTouching tiLyingAlong tiMeetingPairs tiAlongPairs tiSize evX evY evLower evBundle evCrossingOf evEventOf evLeftEvent evRightEvent evSize evCrossings evSegmentsNow grDegree grEdges grFar grQueue grQueued huX huY huSize huBestX huBestY S (xsOc X ou :: wM X mThrown mWorld mImage mDraft mEarlier mRemembered mHasImage mIsLaid mOne mTwo mShare mX mY mD mEventX mEventY mEventD mEvents mCrossingOf mBundle mEventOf mDegree mFrom mTo mCrossings mEdges mMet mUpper mLower mTape mTaped mPoint mEnd mBegin mFaultAt mFive mTold mActs mFar mViews mHullX mHullY mEndX mEndY mHeightUp mHeightLow mMeets mMeetsOf [])) → va_S (xsF X) s.heap H locs → lv_has ls 8 [(4, .int i), (3, .ref (xsA X 131)), (2, .ref (xsA X 100)), (1, .ref (xsA X 0)), (0, .ref b)] → W p l e room_1 s m #[.ref b] below meth c H locs (C0 + 5) (D0 + 30) Q (F0 m 2175 ls [])) :
    W p l e room_1 s m #[.ref b] below meth c H locs C0 D0 Q (F0 m 2058 ls []) := by
  have hx := C.1
  have hb := C.2.1
  obtain ⟨out, mo, ef, em, hor⟩ := hp hR v1 v2
  rcases hor with ⟨tt, eo, ea, et, hR⟩ | ⟨n, tt, eo, en, et, hR⟩
  · subst eo
    refine lv_aload_n hx hb dL_law_2058 rfl (lv_at hl 3 rfl) ?_
    refine lv_aload_n hx hb dL_law_2059 rfl (lv_at hl 4 rfl) ?_
    refine lv_iload hx hb dL_law_2060 (lv_at hl 0 rfl) ?_
    refine lv_iconst (v := (1 : Int32)) hx hb dL_law_2062 (by decide) ?_
    refine lv_iadd hx hb dL_law_2063 ?_
    refine xs_lld C hX hbz hbl hS hi1 dL_law_2064 ?_
    refine lv_aload_n hx hb dL_law_2065 rfl (lv_at hl 4 rfl) ?_
    refine lv_iload hx hb dL_law_2066 (lv_at hl 0 rfl) ?_
    refine lv_iconst (v := (2 : Int32)) hx hb dL_law_2068 (by decide) ?_
    refine lv_iadd hx hb dL_law_2069 ?_
    refine xs_lld C hX hbz hbl hS hi2 dL_law_2070 ?_
    refine lv_aload_n hx hb dL_law_2071 rfl (lv_at hl 1 rfl) ?_
    refine xs_lcalli hS (xs_lrunS (As := [.ref (xsA X 0), .int v1, .int v2, .ref (xsA X 131)]) (rest := []) C (mL_tinted l hst (xs_eta (S 0)) ef (fun n tt h => by cases h)) w_1332 w_1333 w_104 w_1334 hd_L_tinted (xsRmL hcs (by decide) (by decide) (by decide) (by decide)) hP hD hS hl.1 rfl (Nat.le_of_ble_eq_true rfl) dL_law_2072) (fun r u H locs hq hP hD hS => ?_)
    rcases hq with ⟨tx, e1, e2, e3⟩ | ⟨n, tx, e1, e2, e3⟩
    · cases e1
      subst e3
      subst e2
      refine lv_istore (lv' := [(5, .int 0), (4, .int i), (3, .ref (xsA X 131)), (2, .ref (xsA X 100)), (1, .ref (xsA X 0)), (0, .ref b)]) hx hb dL_law_2075 hl (by decide) rfl (fun ls hl => ?_)
      refine lv_aload_n hx hb dL_law_2077 rfl (lv_at hl 3 rfl) ?_
      refine lv_aload_n hx hb dL_law_2078 rfl (lv_at hl 5 rfl) ?_
      refine lv_iload hx hb dL_law_2079 (lv_at hl 1 rfl) ?_
      refine lv_iconst (v := (1 : Int32)) hx hb dL_law_2081 (by decide) ?_
      refine lv_iadd hx hb dL_law_2082 ?_
      refine xs_lld C hX hbz hbl hS hi1 dL_law_2083 ?_
      refine lv_aload_n hx hb dL_law_2084 rfl (lv_at hl 5 rfl) ?_
      refine lv_iload hx hb dL_law_2085 (lv_at hl 1 rfl) ?_
      refine lv_iconst (v := (2 : Int32)) hx hb dL_law_2087 (by decide) ?_
      refine lv_iadd hx hb dL_law_2088 ?_
      refine xs_lld C hX hbz hbl hS hi2 dL_law_2089 ?_
      replace hP := xs_toM hP
      replace hD := xs_toMD hD
      refine xs_calli hS (xs_runV (As := [.int v1, .int v2]) (rest := []) C (mX11_tinted l em) w_1933 w_1934 w_1935 w_115 w_1936 hd_X11_tinted (xsRmB hcs (by decide) (by decide) (by decide) (by decide)) hP hD hS lk_X11 rfl hl.1 rfl (Nat.le_of_ble_eq_true rfl) dL_law_2090) (fun H locs hP hD hS => ?_)
      refine lv_istore (lv' := [(6, .int mo.1), (5, .int 0), (4, .int i), (3, .ref (xsA X 131)), (2, .ref (xsA X 100)), (1, .ref (xsA X 0)), (0, .ref b)]) hx hb dL_law_2093 hl (by decide) rfl (fun ls hl => ?_)
      refine lv_aload_n hx hb dL_law_2095 rfl (lv_at hl 4 rfl) ?_
      refine xs_calli hS (xs_runV (As := []) (rest := []) C (mX11_thrown l rfl) w_1343 w_1344 w_1345 w_115 w_1346 hd_X11_thrown (xsRmB hcs (by decide) (by decide) (by decide) (by decide)) hP hD hS lk_X11 rfl hl.1 rfl (Nat.le_of_ble_eq_true rfl) dL_law_2096) (fun H locs hP hD hS => ?_)
      replace hP := xs_toK hP
      replace hD := xs_toKD hD
      refine lv_iload hx hb dL_law_2099 (lv_at hl 1 rfl) ?_
      refine lv_icmp_eq (tgt := 2106) hx hb dL_law_2101 (by decide) (fun _ => ?_) (fun q => absurd et q)
      refine lv_iload hx hb dL_law_2106 (lv_at hl 1 rfl) ?_
      refine lv_if_ne (tgt := 2123) hx hb dL_law_2108 (by decide) (fun q => absurd rfl q) (fun _ => ?_)
      refine lv_aload_n hx hb dL_law_2111 rfl (lv_at hl 3 rfl) ?_
      refine lv_iconst (v := (0 : Int32)) hx hb dL_law_2112 (by decide) ?_
      refine xs_lald C hP (q0 := 99) rfl (vp_in_nI (n := 0) (by decide) (by decide)) dL_law_2113 ?_
      refine lv_iload hx hb dL_law_2114 (lv_at hl 0 rfl) ?_
      refine lv_i2l hx hb dL_law_2116 rfl ?_
      refine xs_lcmp_eq (tgt := 2123) C dL_law_2117 dL_law_2118 (by decide) (fun _ => ?_) (fun q => absurd (xs_ou0 (congrArg Int32.toInt64 ea)) q)
      refine lv_goto (tgt := 2175) hx hb dL_law_2123 (by decide) ?_
      exact W.widen (Nat.add_le_add_left (by decide) _) (Nat.add_le_add_left (by decide) _) (kk hR hP hD hS (lv_sub hl [2, 3, 4, 5, 6] rfl))
    · cases e1
  · subst eo
    refine lv_aload_n hx hb dL_law_2058 rfl (lv_at hl 3 rfl) ?_
    refine lv_aload_n hx hb dL_law_2059 rfl (lv_at hl 4 rfl) ?_
    refine lv_iload hx hb dL_law_2060 (lv_at hl 0 rfl) ?_
    refine lv_iconst (v := (1 : Int32)) hx hb dL_law_2062 (by decide) ?_
    refine lv_iadd hx hb dL_law_2063 ?_
    refine xs_lld C hX hbz hbl hS hi1 dL_law_2064 ?_
    refine lv_aload_n hx hb dL_law_2065 rfl (lv_at hl 4 rfl) ?_
    refine lv_iload hx hb dL_law_2066 (lv_at hl 0 rfl) ?_
    refine lv_iconst (v := (2 : Int32)) hx hb dL_law_2068 (by decide) ?_
    refine lv_iadd hx hb dL_law_2069 ?_
    refine xs_lld C hX hbz hbl hS hi2 dL_law_2070 ?_
    refine lv_aload_n hx hb dL_law_2071 rfl (lv_at hl 1 rfl) ?_
    refine xs_lcalli hS (xs_lrunS (As := [.ref (xsA X 0), .int v1, .int v2, .ref (xsA X 131)]) (rest := []) C (mL_tinted l hst (xs_eta (S 0)) ef (fun n2 t2 h => by cases h; exact en)) w_1332 w_1333 w_104 w_1334 hd_L_tinted (xsRmL hcs (by decide) (by decide) (by decide) (by decide)) hP hD hS hl.1 rfl (Nat.le_of_ble_eq_true rfl) dL_law_2072) (fun r u H locs hq hP hD hS => ?_)
    rcases hq with ⟨tx, e1, e2, e3⟩ | ⟨n2, tx, e1, e2, e3⟩
    · cases e1
    · cases e1
      subst e3
      have ekn : ¬ r = 0 := by rw [e2]; rw [en]; decide
      replace et := et.trans e2.symm
      refine lv_istore (lv' := [(5, .int r), (4, .int i), (3, .ref (xsA X 131)), (2, .ref (xsA X 100)), (1, .ref (xsA X 0)), (0, .ref b)]) hx hb dL_law_2075 hl (by decide) rfl (fun ls hl => ?_)
      refine lv_aload_n hx hb dL_law_2077 rfl (lv_at hl 3 rfl) ?_
      refine lv_aload_n hx hb dL_law_2078 rfl (lv_at hl 5 rfl) ?_
      refine lv_iload hx hb dL_law_2079 (lv_at hl 1 rfl) ?_
      refine lv_iconst (v := (1 : Int32)) hx hb dL_law_2081 (by decide) ?_
      refine lv_iadd hx hb dL_law_2082 ?_
      refine xs_lld C hX hbz hbl hS hi1 dL_law_2083 ?_
      refine lv_aload_n hx hb dL_law_2084 rfl (lv_at hl 5 rfl) ?_
      refine lv_iload hx hb dL_law_2085 (lv_at hl 1 rfl) ?_
      refine lv_iconst (v := (2 : Int32)) hx hb dL_law_2087 (by decide) ?_
      refine lv_iadd hx hb dL_law_2088 ?_
      refine xs_lld C hX hbz hbl hS hi2 dL_law_2089 ?_
      replace hP := xs_toM hP
      replace hD := xs_toMD hD
      refine xs_calli hS (xs_runV (As := [.int v1, .int v2]) (rest := []) C (mX11_tinted l em) w_1933 w_1934 w_1935 w_115 w_1936 hd_X11_tinted (xsRmB hcs (by decide) (by decide) (by decide) (by decide)) hP hD hS lk_X11 rfl hl.1 rfl (Nat.le_of_ble_eq_true rfl) dL_law_2090) (fun H locs hP hD hS => ?_)
      refine lv_istore (lv' := [(6, .int mo.1), (5, .int r), (4, .int i), (3, .ref (xsA X 131)), (2, .ref (xsA X 100)), (1, .ref (xsA X 0)), (0, .ref b)]) hx hb dL_law_2093 hl (by decide) rfl (fun ls hl => ?_)
      refine lv_aload_n hx hb dL_law_2095 rfl (lv_at hl 4 rfl) ?_
      refine xs_calli hS (xs_runV (As := []) (rest := []) C (mX11_thrown l rfl) w_1343 w_1344 w_1345 w_115 w_1346 hd_X11_thrown (xsRmB hcs (by decide) (by decide) (by decide) (by decide)) hP hD hS lk_X11 rfl hl.1 rfl (Nat.le_of_ble_eq_true rfl) dL_law_2096) (fun H locs hP hD hS => ?_)
      replace hP := xs_toK hP
      replace hD := xs_toKD hD
      refine lv_iload hx hb dL_law_2099 (lv_at hl 1 rfl) ?_
      refine lv_icmp_eq (tgt := 2106) hx hb dL_law_2101 (by decide) (fun _ => ?_) (fun q => absurd et q)
      refine lv_iload hx hb dL_law_2106 (lv_at hl 1 rfl) ?_
      refine lv_if_ne (tgt := 2123) hx hb dL_law_2108 (by decide) (fun _ => ?_) (fun q => absurd q (ekn))
      refine lv_goto (tgt := 2175) hx hb dL_law_2123 (by decide) ?_
      exact W.widen (Nat.add_le_add_left (by decide) _) (Nat.add_le_add_left (by decide) _) (kk hR hP hD hS (lv_sub hl [2, 3, 4, 5, 6] rfl))
set_option maxRecDepth 100000 in
set_option maxHeartbeats 8000000 in
theorem lc_image {Rl : xsRel} (l : Launch) (hst : l.stackTraces = false) (hp : pc_image Rl) {i v1 v2 v3 v4 v5 : Int32} (C : xsC p s m c cL_law #[.ref b] RL 8 X) (hX : va_X b L xs s s.heap) (hbz : b < xsZ X) (hbl : b < s.heap.size) (hi1 : vp_in (i + 1) L ∧ xs (i + 1).toNatClampNeg = v1) (hi2 : vp_in (i + 2) L ∧ xs (i + 2).toNatClampNeg = v2) (hi3 : vp_in (i + 3) L ∧ xs (i + 3).toNatClampNeg = v3) (hi4 : vp_in (i + 4) L ∧ xs (i + 4).toNatClampNeg = v4) (hi5 : vp_in (i + 5) L ∧ xs (i + 5).toNatClampNeg = v5) (hcs : xsRmC C0 D0) (hP : va_P (xsD X) vwCl (wK X kIsKept kIsStale hiLatest hiSize scBytes scTold scLength scFault scAt scNumber piSegmentsNow enKind enX enY enLower enFromX enFromY enToX enToY tiTouching tiLyingAlong tiMeetingPairs tiAlongPairs tiSize evX evY evLower evBundle evCrossingOf evEventOf evLeftEvent evRightEvent evSize evCrossings evSegmentsNow grDegree grEdges grFar grQueue grQueued huX huY huSize huBestX huBestY S (xsOc X ou :: wM X mThrown mWorld mImage mDraft mEarlier mRemembered mHasImage mIsLaid mOne mTwo mShare mX mY mD mEventX mEventY mEventD mEvents mCrossingOf mBundle mEventOf mDegree mFrom mTo mCrossings mEdges mMet mUpper mLower mTape mTaped mPoint mEnd mBegin mFaultAt mFive mTold mActs mFar mViews mHullX mHullY mEndX mEndY mHeightUp mHeightLow mMeets mMeetsOf [])) H) (hD : va_D (xsF X) (wK X kIsKept kIsStale hiLatest hiSize scBytes scTold scLength scFault scAt scNumber piSegmentsNow enKind enX enY enLower enFromX enFromY enToX enToY tiTouching tiLyingAlong tiMeetingPairs tiAlongPairs tiSize evX evY evLower evBundle evCrossingOf evEventOf evLeftEvent evRightEvent evSize evCrossings evSegmentsNow grDegree grEdges grFar grQueue grQueued huX huY huSize huBestX huBestY S (xsOc X ou :: wM X mThrown mWorld mImage mDraft mEarlier mRemembered mHasImage mIsLaid mOne mTwo mShare mX mY mD mEventX mEventY mEventD mEvents mCrossingOf mBundle mEventOf mDegree mFrom mTo mCrossings mEdges mMet mUpper mLower mTape mTaped mPoint mEnd mBegin mFaultAt mFive mTold mActs mFar mViews mHullX mHullY mEndX mEndY mHeightUp mHeightLow mMeets mMeetsOf []))) (hS : va_S (xsF X) s.heap H locs) (hl : lv_has ls 8 [(4, .int i), (3, .ref (xsA X 131)), (2, .ref (xsA X 100)), (1, .ref (xsA X 0)), (0, .ref b)]) (hR : Rl kIsKept kIsStale hiLatest hiSize scBytes scTold scLength scFault scAt scNumber piSegmentsNow enKind enX enY enLower enFromX enFromY enToX enToY tiTouching tiLyingAlong tiMeetingPairs tiAlongPairs tiSize evX evY evLower evBundle evCrossingOf evEventOf evLeftEvent evRightEvent evSize evCrossings evSegmentsNow grDegree grEdges grFar grQueue grQueued huX huY huSize huBestX huBestY S mThrown mWorld mImage mDraft mEarlier mRemembered mHasImage mIsLaid mOne mTwo mShare mX mY mD mEventX mEventY mEventD mEvents mCrossingOf mBundle mEventOf mDegree mFrom mTo mCrossings mEdges mMet mUpper mLower mTape mTaped mPoint mEnd mBegin mFaultAt mFive mTold mActs mFar mViews mHullX mHullY mEndX mEndY mHeightUp mHeightLow mMeets mMeetsOf)
    (kk : ∀ {kIsKept kIsStale hiLatest hiSize scLength scFault scAt scNumber piSegmentsNow enKind enFromX enFromY enToX enToY tiMeetingPairs tiAlongPairs tiSize evSize evCrossings evSegmentsNow grEdges grQueued huSize huBestX huBestY : Int32} {scBytes scTold tiTouching tiLyingAlong evBundle evCrossingOf evEventOf evLeftEvent evRightEvent grDegree grFar grQueue huX huY : Nat → Int32} {enX enY enLower : Int64} {evX evY evLower : Nat → Int64} {S : Nat → xsV} {mThrown mRemembered mHasImage mIsLaid mEvents mCrossings mEdges mTaped mPoint mEnd mBegin mFaultAt mActs : Int32} {mWorld mImage mDraft mEarlier mOne mTwo mShare mCrossingOf mBundle mEventOf mDegree mFrom mTo mMet mTape mFive mTold mFar mViews mHullX mHullY mEndX mEndY mMeets mMeetsOf : Nat → Int32} {mX mY mD mHeightUp mHeightLow : Int64} {mEventX mEventY mEventD mUpper mLower : Nat → Int64} {ou : Nat → Int64} {ls : Array Slot} {H : Heap} {locs : List Loc}, Rl kIsKept kIsStale hiLatest hiSize scBytes scTold scLength scFault scAt scNumber piSegmentsNow enKind enX enY enLower enFromX enFromY enToX enToY tiTouching tiLyingAlong tiMeetingPairs tiAlongPairs tiSize evX evY evLower evBundle evCrossingOf evEventOf evLeftEvent evRightEvent evSize evCrossings evSegmentsNow grDegree grEdges grFar grQueue grQueued huX huY huSize huBestX huBestY S mThrown mWorld mImage mDraft mEarlier mRemembered mHasImage mIsLaid mOne mTwo mShare mX mY mD mEventX mEventY mEventD mEvents mCrossingOf mBundle mEventOf mDegree mFrom mTo mCrossings mEdges mMet mUpper mLower mTape mTaped mPoint mEnd mBegin mFaultAt mFive mTold mActs mFar mViews mHullX mHullY mEndX mEndY mHeightUp mHeightLow mMeets mMeetsOf → va_P (xsD X) vwCl (wK X kIsKept kIsStale hiLatest hiSize scBytes scTold scLength scFault scAt scNumber piSegmentsNow enKind enX enY enLower enFromX enFromY enToX enToY tiTouching tiLyingAlong tiMeetingPairs tiAlongPairs tiSize evX evY evLower evBundle evCrossingOf evEventOf evLeftEvent evRightEvent evSize evCrossings evSegmentsNow grDegree grEdges grFar grQueue grQueued huX huY huSize huBestX huBestY S (xsOc X ou :: wM X mThrown mWorld mImage mDraft mEarlier mRemembered mHasImage mIsLaid mOne mTwo mShare mX mY mD mEventX mEventY mEventD mEvents mCrossingOf mBundle mEventOf mDegree mFrom mTo mCrossings mEdges mMet mUpper mLower mTape mTaped mPoint mEnd mBegin mFaultAt mFive mTold mActs mFar mViews mHullX mHullY mEndX mEndY mHeightUp mHeightLow mMeets mMeetsOf [])) H → va_D (xsF X) (wK X kIsKept kIsStale hiLatest hiSize scBytes scTold scLength scFault scAt scNumber piSegmentsNow enKind enX enY enLower enFromX enFromY enToX enToY tiTouching tiLyingAlong tiMeetingPairs tiAlongPairs tiSize evX evY evLower evBundle evCrossingOf evEventOf evLeftEvent evRightEvent evSize evCrossings evSegmentsNow grDegree grEdges grFar grQueue grQueued huX huY huSize huBestX huBestY S (xsOc X ou :: wM X mThrown mWorld mImage mDraft mEarlier mRemembered mHasImage mIsLaid mOne mTwo mShare mX mY mD mEventX mEventY mEventD mEvents mCrossingOf mBundle mEventOf mDegree mFrom mTo mCrossings mEdges mMet mUpper mLower mTape mTaped mPoint mEnd mBegin mFaultAt mFive mTold mActs mFar mViews mHullX mHullY mEndX mEndY mHeightUp mHeightLow mMeets mMeetsOf [])) → va_S (xsF X) s.heap H locs → lv_has ls 8 [(4, .int i), (3, .ref (xsA X 131)), (2, .ref (xsA X 100)), (1, .ref (xsA X 0)), (0, .ref b)] → W p l e room_1 s m #[.ref b] below meth c H locs (C0 + 5) (D0 + 30) Q (F0 m 2175 ls [])) :
    W p l e room_1 s m #[.ref b] below meth c H locs C0 D0 Q (F0 m 2126 ls []) := by
  have hx := C.1
  have hb := C.2.1
  obtain ⟨out, mo, ef, em, hor⟩ := hp hR 
  refine lv_aload_n hx hb dL_law_2126 rfl (lv_at hl 3 rfl) ?_
  refine xs_callv hS (xs_runV (As := []) (rest := []) C (mX10_image l (xs_eta (S 0)) (xs_eta (S 1)) ef) w_653 w_654 w_655 w_105 w_656 hd_X10_image (xsRmA hcs (by decide) (by decide)) hP hD hS lk_X10 rfl hl.1 rfl (Nat.le_of_ble_eq_true rfl) dL_law_2127) (fun H locs hP hD hS => ?_)
  replace hP := xs_toM hP
  replace hD := xs_toMD hD
  refine lv_aload_n hx hb dL_law_2130 rfl (lv_at hl 2 rfl) ?_
  refine xs_callv hS (xs_runV (As := []) (rest := []) C (mX11_image l em) w_1509 w_1510 w_1511 w_115 w_1512 hd_X11_image (xsRmA hcs (by decide) (by decide)) hP hD hS lk_X11 rfl hl.1 rfl (Nat.le_of_ble_eq_true rfl) dL_law_2131) (fun H locs hP hD hS => ?_)
  replace hP := xs_toK hP
  replace hD := xs_toKD hD
  refine lv_goto (tgt := 2175) hx hb dL_law_2134 (by decide) ?_
  exact W.widen (Nat.le_add_right _ _) (Nat.le_add_right _ _) (kk hor hP hD hS hl)
set_option maxRecDepth 100000 in
set_option maxHeartbeats 8000000 in
theorem lc_back {Rl : xsRel} (l : Launch) (hst : l.stackTraces = false) (hp : pc_back Rl) {i v1 v2 v3 v4 v5 : Int32} (C : xsC p s m c cL_law #[.ref b] RL 8 X) (hX : va_X b L xs s s.heap) (hbz : b < xsZ X) (hbl : b < s.heap.size) (hi1 : vp_in (i + 1) L ∧ xs (i + 1).toNatClampNeg = v1) (hi2 : vp_in (i + 2) L ∧ xs (i + 2).toNatClampNeg = v2) (hi3 : vp_in (i + 3) L ∧ xs (i + 3).toNatClampNeg = v3) (hi4 : vp_in (i + 4) L ∧ xs (i + 4).toNatClampNeg = v4) (hi5 : vp_in (i + 5) L ∧ xs (i + 5).toNatClampNeg = v5) (hcs : xsRmC C0 D0) (hP : va_P (xsD X) vwCl (wK X kIsKept kIsStale hiLatest hiSize scBytes scTold scLength scFault scAt scNumber piSegmentsNow enKind enX enY enLower enFromX enFromY enToX enToY tiTouching tiLyingAlong tiMeetingPairs tiAlongPairs tiSize evX evY evLower evBundle evCrossingOf evEventOf evLeftEvent evRightEvent evSize evCrossings evSegmentsNow grDegree grEdges grFar grQueue grQueued huX huY huSize huBestX huBestY S (xsOc X ou :: wM X mThrown mWorld mImage mDraft mEarlier mRemembered mHasImage mIsLaid mOne mTwo mShare mX mY mD mEventX mEventY mEventD mEvents mCrossingOf mBundle mEventOf mDegree mFrom mTo mCrossings mEdges mMet mUpper mLower mTape mTaped mPoint mEnd mBegin mFaultAt mFive mTold mActs mFar mViews mHullX mHullY mEndX mEndY mHeightUp mHeightLow mMeets mMeetsOf [])) H) (hD : va_D (xsF X) (wK X kIsKept kIsStale hiLatest hiSize scBytes scTold scLength scFault scAt scNumber piSegmentsNow enKind enX enY enLower enFromX enFromY enToX enToY tiTouching tiLyingAlong tiMeetingPairs tiAlongPairs tiSize evX evY evLower evBundle evCrossingOf evEventOf evLeftEvent evRightEvent evSize evCrossings evSegmentsNow grDegree grEdges grFar grQueue grQueued huX huY huSize huBestX huBestY S (xsOc X ou :: wM X mThrown mWorld mImage mDraft mEarlier mRemembered mHasImage mIsLaid mOne mTwo mShare mX mY mD mEventX mEventY mEventD mEvents mCrossingOf mBundle mEventOf mDegree mFrom mTo mCrossings mEdges mMet mUpper mLower mTape mTaped mPoint mEnd mBegin mFaultAt mFive mTold mActs mFar mViews mHullX mHullY mEndX mEndY mHeightUp mHeightLow mMeets mMeetsOf []))) (hS : va_S (xsF X) s.heap H locs) (hl : lv_has ls 8 [(4, .int i), (3, .ref (xsA X 131)), (2, .ref (xsA X 100)), (1, .ref (xsA X 0)), (0, .ref b)]) (hR : Rl kIsKept kIsStale hiLatest hiSize scBytes scTold scLength scFault scAt scNumber piSegmentsNow enKind enX enY enLower enFromX enFromY enToX enToY tiTouching tiLyingAlong tiMeetingPairs tiAlongPairs tiSize evX evY evLower evBundle evCrossingOf evEventOf evLeftEvent evRightEvent evSize evCrossings evSegmentsNow grDegree grEdges grFar grQueue grQueued huX huY huSize huBestX huBestY S mThrown mWorld mImage mDraft mEarlier mRemembered mHasImage mIsLaid mOne mTwo mShare mX mY mD mEventX mEventY mEventD mEvents mCrossingOf mBundle mEventOf mDegree mFrom mTo mCrossings mEdges mMet mUpper mLower mTape mTaped mPoint mEnd mBegin mFaultAt mFive mTold mActs mFar mViews mHullX mHullY mEndX mEndY mHeightUp mHeightLow mMeets mMeetsOf)
    (kk : ∀ {kIsKept kIsStale hiLatest hiSize scLength scFault scAt scNumber piSegmentsNow enKind enFromX enFromY enToX enToY tiMeetingPairs tiAlongPairs tiSize evSize evCrossings evSegmentsNow grEdges grQueued huSize huBestX huBestY : Int32} {scBytes scTold tiTouching tiLyingAlong evBundle evCrossingOf evEventOf evLeftEvent evRightEvent grDegree grFar grQueue huX huY : Nat → Int32} {enX enY enLower : Int64} {evX evY evLower : Nat → Int64} {S : Nat → xsV} {mThrown mRemembered mHasImage mIsLaid mEvents mCrossings mEdges mTaped mPoint mEnd mBegin mFaultAt mActs : Int32} {mWorld mImage mDraft mEarlier mOne mTwo mShare mCrossingOf mBundle mEventOf mDegree mFrom mTo mMet mTape mFive mTold mFar mViews mHullX mHullY mEndX mEndY mMeets mMeetsOf : Nat → Int32} {mX mY mD mHeightUp mHeightLow : Int64} {mEventX mEventY mEventD mUpper mLower : Nat → Int64} {ou : Nat → Int64} {ls : Array Slot} {H : Heap} {locs : List Loc}, Rl kIsKept kIsStale hiLatest hiSize scBytes scTold scLength scFault scAt scNumber piSegmentsNow enKind enX enY enLower enFromX enFromY enToX enToY tiTouching tiLyingAlong tiMeetingPairs tiAlongPairs tiSize evX evY evLower evBundle evCrossingOf evEventOf evLeftEvent evRightEvent evSize evCrossings evSegmentsNow grDegree grEdges grFar grQueue grQueued huX huY huSize huBestX huBestY S mThrown mWorld mImage mDraft mEarlier mRemembered mHasImage mIsLaid mOne mTwo mShare mX mY mD mEventX mEventY mEventD mEvents mCrossingOf mBundle mEventOf mDegree mFrom mTo mCrossings mEdges mMet mUpper mLower mTape mTaped mPoint mEnd mBegin mFaultAt mFive mTold mActs mFar mViews mHullX mHullY mEndX mEndY mHeightUp mHeightLow mMeets mMeetsOf → va_P (xsD X) vwCl (wK X kIsKept kIsStale hiLatest hiSize scBytes scTold scLength scFault scAt scNumber piSegmentsNow enKind enX enY enLower enFromX enFromY enToX enToY tiTouching tiLyingAlong tiMeetingPairs tiAlongPairs tiSize evX evY evLower evBundle evCrossingOf evEventOf evLeftEvent evRightEvent evSize evCrossings evSegmentsNow grDegree grEdges grFar grQueue grQueued huX huY huSize huBestX huBestY S (xsOc X ou :: wM X mThrown mWorld mImage mDraft mEarlier mRemembered mHasImage mIsLaid mOne mTwo mShare mX mY mD mEventX mEventY mEventD mEvents mCrossingOf mBundle mEventOf mDegree mFrom mTo mCrossings mEdges mMet mUpper mLower mTape mTaped mPoint mEnd mBegin mFaultAt mFive mTold mActs mFar mViews mHullX mHullY mEndX mEndY mHeightUp mHeightLow mMeets mMeetsOf [])) H → va_D (xsF X) (wK X kIsKept kIsStale hiLatest hiSize scBytes scTold scLength scFault scAt scNumber piSegmentsNow enKind enX enY enLower enFromX enFromY enToX enToY tiTouching tiLyingAlong tiMeetingPairs tiAlongPairs tiSize evX evY evLower evBundle evCrossingOf evEventOf evLeftEvent evRightEvent evSize evCrossings evSegmentsNow grDegree grEdges grFar grQueue grQueued huX huY huSize huBestX huBestY S (xsOc X ou :: wM X mThrown mWorld mImage mDraft mEarlier mRemembered mHasImage mIsLaid mOne mTwo mShare mX mY mD mEventX mEventY mEventD mEvents mCrossingOf mBundle mEventOf mDegree mFrom mTo mCrossings mEdges mMet mUpper mLower mTape mTaped mPoint mEnd mBegin mFaultAt mFive mTold mActs mFar mViews mHullX mHullY mEndX mEndY mHeightUp mHeightLow mMeets mMeetsOf [])) → va_S (xsF X) s.heap H locs → lv_has ls 8 [(4, .int i), (3, .ref (xsA X 131)), (2, .ref (xsA X 100)), (1, .ref (xsA X 0)), (0, .ref b)] → W p l e room_1 s m #[.ref b] below meth c H locs (C0 + 5) (D0 + 30) Q (F0 m 2175 ls [])) :
    W p l e room_1 s m #[.ref b] below meth c H locs C0 D0 Q (F0 m 2137 ls []) := by
  have hx := C.1
  have hb := C.2.1
  obtain ⟨out, mo, ef, em, hor⟩ := hp hR 
  refine lv_aload_n hx hb dL_law_2137 rfl (lv_at hl 3 rfl) ?_
  refine xs_calli hS (xs_runV (As := []) (rest := []) C (mX10_back l (xs_eta (S 0)) (xs_eta (S 1)) ef) w_658 w_659 w_660 w_105 w_661 hd_X10_back (xsRmA hcs (by decide) (by decide)) hP hD hS lk_X10 rfl hl.1 rfl (Nat.le_of_ble_eq_true rfl) dL_law_2138) (fun H locs hP hD hS => ?_)
  replace hP := xs_toM hP
  replace hD := xs_toMD hD
  refine lv_aload_n hx hb dL_law_2141 rfl (lv_at hl 2 rfl) ?_
  refine xs_calli hS (xs_runV (As := []) (rest := [.int out.1]) C (mX11_back l em) w_1513 w_1514 w_1515 w_115 w_1516 hd_X11_back (xsRmA hcs (by decide) (by decide)) hP hD hS lk_X11 rfl hl.1 rfl (Nat.le_of_ble_eq_true rfl) dL_law_2142) (fun H locs hP hD hS => ?_)
  replace hP := xs_toK hP
  replace hD := xs_toKD hD
  refine lv_icmp_eq (tgt := 2175) hx hb dL_law_2145 (by decide) (fun _ => ?_) (fun q => absurd hor.1 q)
  exact W.widen (Nat.le_add_right _ _) (Nat.le_add_right _ _) (kk hor.2 hP hD hS hl)
set_option maxRecDepth 100000 in
set_option maxHeartbeats 8000000 in
theorem lc_count {Rl : xsRel} (l : Launch) (hst : l.stackTraces = false) (hp : pc_count Rl) {i v1 v2 v3 v4 v5 : Int32} (C : xsC p s m c cL_law #[.ref b] RL 8 X) (hX : va_X b L xs s s.heap) (hbz : b < xsZ X) (hbl : b < s.heap.size) (hi1 : vp_in (i + 1) L ∧ xs (i + 1).toNatClampNeg = v1) (hi2 : vp_in (i + 2) L ∧ xs (i + 2).toNatClampNeg = v2) (hi3 : vp_in (i + 3) L ∧ xs (i + 3).toNatClampNeg = v3) (hi4 : vp_in (i + 4) L ∧ xs (i + 4).toNatClampNeg = v4) (hi5 : vp_in (i + 5) L ∧ xs (i + 5).toNatClampNeg = v5) (hcs : xsRmC C0 D0) (hP : va_P (xsD X) vwCl (wK X kIsKept kIsStale hiLatest hiSize scBytes scTold scLength scFault scAt scNumber piSegmentsNow enKind enX enY enLower enFromX enFromY enToX enToY tiTouching tiLyingAlong tiMeetingPairs tiAlongPairs tiSize evX evY evLower evBundle evCrossingOf evEventOf evLeftEvent evRightEvent evSize evCrossings evSegmentsNow grDegree grEdges grFar grQueue grQueued huX huY huSize huBestX huBestY S (xsOc X ou :: wM X mThrown mWorld mImage mDraft mEarlier mRemembered mHasImage mIsLaid mOne mTwo mShare mX mY mD mEventX mEventY mEventD mEvents mCrossingOf mBundle mEventOf mDegree mFrom mTo mCrossings mEdges mMet mUpper mLower mTape mTaped mPoint mEnd mBegin mFaultAt mFive mTold mActs mFar mViews mHullX mHullY mEndX mEndY mHeightUp mHeightLow mMeets mMeetsOf [])) H) (hD : va_D (xsF X) (wK X kIsKept kIsStale hiLatest hiSize scBytes scTold scLength scFault scAt scNumber piSegmentsNow enKind enX enY enLower enFromX enFromY enToX enToY tiTouching tiLyingAlong tiMeetingPairs tiAlongPairs tiSize evX evY evLower evBundle evCrossingOf evEventOf evLeftEvent evRightEvent evSize evCrossings evSegmentsNow grDegree grEdges grFar grQueue grQueued huX huY huSize huBestX huBestY S (xsOc X ou :: wM X mThrown mWorld mImage mDraft mEarlier mRemembered mHasImage mIsLaid mOne mTwo mShare mX mY mD mEventX mEventY mEventD mEvents mCrossingOf mBundle mEventOf mDegree mFrom mTo mCrossings mEdges mMet mUpper mLower mTape mTaped mPoint mEnd mBegin mFaultAt mFive mTold mActs mFar mViews mHullX mHullY mEndX mEndY mHeightUp mHeightLow mMeets mMeetsOf []))) (hS : va_S (xsF X) s.heap H locs) (hl : lv_has ls 8 [(4, .int i), (3, .ref (xsA X 131)), (2, .ref (xsA X 100)), (1, .ref (xsA X 0)), (0, .ref b)]) (hR : Rl kIsKept kIsStale hiLatest hiSize scBytes scTold scLength scFault scAt scNumber piSegmentsNow enKind enX enY enLower enFromX enFromY enToX enToY tiTouching tiLyingAlong tiMeetingPairs tiAlongPairs tiSize evX evY evLower evBundle evCrossingOf evEventOf evLeftEvent evRightEvent evSize evCrossings evSegmentsNow grDegree grEdges grFar grQueue grQueued huX huY huSize huBestX huBestY S mThrown mWorld mImage mDraft mEarlier mRemembered mHasImage mIsLaid mOne mTwo mShare mX mY mD mEventX mEventY mEventD mEvents mCrossingOf mBundle mEventOf mDegree mFrom mTo mCrossings mEdges mMet mUpper mLower mTape mTaped mPoint mEnd mBegin mFaultAt mFive mTold mActs mFar mViews mHullX mHullY mEndX mEndY mHeightUp mHeightLow mMeets mMeetsOf)
    (kk : ∀ {kIsKept kIsStale hiLatest hiSize scLength scFault scAt scNumber piSegmentsNow enKind enFromX enFromY enToX enToY tiMeetingPairs tiAlongPairs tiSize evSize evCrossings evSegmentsNow grEdges grQueued huSize huBestX huBestY : Int32} {scBytes scTold tiTouching tiLyingAlong evBundle evCrossingOf evEventOf evLeftEvent evRightEvent grDegree grFar grQueue huX huY : Nat → Int32} {enX enY enLower : Int64} {evX evY evLower : Nat → Int64} {S : Nat → xsV} {mThrown mRemembered mHasImage mIsLaid mEvents mCrossings mEdges mTaped mPoint mEnd mBegin mFaultAt mActs : Int32} {mWorld mImage mDraft mEarlier mOne mTwo mShare mCrossingOf mBundle mEventOf mDegree mFrom mTo mMet mTape mFive mTold mFar mViews mHullX mHullY mEndX mEndY mMeets mMeetsOf : Nat → Int32} {mX mY mD mHeightUp mHeightLow : Int64} {mEventX mEventY mEventD mUpper mLower : Nat → Int64} {ou : Nat → Int64} {ls : Array Slot} {H : Heap} {locs : List Loc}, Rl kIsKept kIsStale hiLatest hiSize scBytes scTold scLength scFault scAt scNumber piSegmentsNow enKind enX enY enLower enFromX enFromY enToX enToY tiTouching tiLyingAlong tiMeetingPairs tiAlongPairs tiSize evX evY evLower evBundle evCrossingOf evEventOf evLeftEvent evRightEvent evSize evCrossings evSegmentsNow grDegree grEdges grFar grQueue grQueued huX huY huSize huBestX huBestY S mThrown mWorld mImage mDraft mEarlier mRemembered mHasImage mIsLaid mOne mTwo mShare mX mY mD mEventX mEventY mEventD mEvents mCrossingOf mBundle mEventOf mDegree mFrom mTo mCrossings mEdges mMet mUpper mLower mTape mTaped mPoint mEnd mBegin mFaultAt mFive mTold mActs mFar mViews mHullX mHullY mEndX mEndY mHeightUp mHeightLow mMeets mMeetsOf → va_P (xsD X) vwCl (wK X kIsKept kIsStale hiLatest hiSize scBytes scTold scLength scFault scAt scNumber piSegmentsNow enKind enX enY enLower enFromX enFromY enToX enToY tiTouching tiLyingAlong tiMeetingPairs tiAlongPairs tiSize evX evY evLower evBundle evCrossingOf evEventOf evLeftEvent evRightEvent evSize evCrossings evSegmentsNow grDegree grEdges grFar grQueue grQueued huX huY huSize huBestX huBestY S (xsOc X ou :: wM X mThrown mWorld mImage mDraft mEarlier mRemembered mHasImage mIsLaid mOne mTwo mShare mX mY mD mEventX mEventY mEventD mEvents mCrossingOf mBundle mEventOf mDegree mFrom mTo mCrossings mEdges mMet mUpper mLower mTape mTaped mPoint mEnd mBegin mFaultAt mFive mTold mActs mFar mViews mHullX mHullY mEndX mEndY mHeightUp mHeightLow mMeets mMeetsOf [])) H → va_D (xsF X) (wK X kIsKept kIsStale hiLatest hiSize scBytes scTold scLength scFault scAt scNumber piSegmentsNow enKind enX enY enLower enFromX enFromY enToX enToY tiTouching tiLyingAlong tiMeetingPairs tiAlongPairs tiSize evX evY evLower evBundle evCrossingOf evEventOf evLeftEvent evRightEvent evSize evCrossings evSegmentsNow grDegree grEdges grFar grQueue grQueued huX huY huSize huBestX huBestY S (xsOc X ou :: wM X mThrown mWorld mImage mDraft mEarlier mRemembered mHasImage mIsLaid mOne mTwo mShare mX mY mD mEventX mEventY mEventD mEvents mCrossingOf mBundle mEventOf mDegree mFrom mTo mCrossings mEdges mMet mUpper mLower mTape mTaped mPoint mEnd mBegin mFaultAt mFive mTold mActs mFar mViews mHullX mHullY mEndX mEndY mHeightUp mHeightLow mMeets mMeetsOf [])) → va_S (xsF X) s.heap H locs → lv_has ls 8 [(4, .int i), (3, .ref (xsA X 131)), (2, .ref (xsA X 100)), (1, .ref (xsA X 0)), (0, .ref b)] → W p l e room_1 s m #[.ref b] below meth c H locs (C0 + 5) (D0 + 30) Q (F0 m 2175 ls [])) :
    W p l e room_1 s m #[.ref b] below meth c H locs C0 D0 Q (F0 m 2150 ls []) := by
  have hx := C.1
  have hb := C.2.1
  obtain ⟨out, mo, ef, em, hor⟩ := hp hR v1
  refine lv_aload_n hx hb dL_law_2150 rfl (lv_at hl 3 rfl) ?_
  refine lv_aload_n hx hb dL_law_2151 rfl (lv_at hl 4 rfl) ?_
  refine lv_iload hx hb dL_law_2152 (lv_at hl 0 rfl) ?_
  refine lv_iconst (v := (1 : Int32)) hx hb dL_law_2154 (by decide) ?_
  refine lv_iadd hx hb dL_law_2155 ?_
  refine xs_lld C hX hbz hbl hS hi1 dL_law_2156 ?_
  refine xs_calli hS (xs_runV (As := [.int v1]) (rest := []) C (mX10_count l (xs_eta (S 0)) ef) w_670 w_671 w_672 w_105 w_673 hd_X10_count (xsRmA hcs (by decide) (by decide)) hP hD hS lk_X10 rfl hl.1 rfl (Nat.le_of_ble_eq_true rfl) dL_law_2157) (fun H locs hP hD hS => ?_)
  replace hP := xs_toM hP
  replace hD := xs_toMD hD
  refine lv_aload_n hx hb dL_law_2160 rfl (lv_at hl 2 rfl) ?_
  refine lv_aload_n hx hb dL_law_2161 rfl (lv_at hl 4 rfl) ?_
  refine lv_iload hx hb dL_law_2162 (lv_at hl 0 rfl) ?_
  refine lv_iconst (v := (1 : Int32)) hx hb dL_law_2164 (by decide) ?_
  refine lv_iadd hx hb dL_law_2165 ?_
  refine xs_lld C hX hbz hbl hS hi1 dL_law_2166 ?_
  refine xs_calli hS (xs_runV (As := [.int v1]) (rest := [.int out.1]) C (mX11_count l em) w_1937 w_1938 w_1939 w_115 w_1940 hd_X11_count (xsRmA hcs (by decide) (by decide)) hP hD hS lk_X11 rfl hl.1 rfl (Nat.le_of_ble_eq_true rfl) dL_law_2167) (fun H locs hP hD hS => ?_)
  replace hP := xs_toK hP
  replace hD := xs_toKD hD
  refine lv_icmp_eq (tgt := 2175) hx hb dL_law_2170 (by decide) (fun _ => ?_) (fun q => absurd hor.1 q)
  exact W.widen (Nat.le_add_right _ _) (Nat.le_add_right _ _) (kk hor.2 hP hD hS hl)
end XSLB
