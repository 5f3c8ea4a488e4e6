/-! PURE: an EVENT told -/
theorem q_event : pc_event puRl := by
  intro kIsKept kIsStale hiLatest hiSize scLength scFault scAt scNumber piSegmentsNow enKind enFromX enFromY enToX enToY tiMeetingPairs tiAlongPairs tiSize evSize evCrossings evSegmentsNow grEdges grQueued huSize huBestX huBestY scBytes scTold tiTouching tiLyingAlong evBundle evCrossingOf evEventOf evLeftEvent evRightEvent grDegree grFar grQueue huX huY enX enY enLower evX evY evLower S mThrown mRemembered mHasImage mIsLaid mEvents mCrossings mEdges mTaped mPoint mEnd mBegin mFaultAt mActs mWorld mImage mDraft mEarlier mOne mTwo mShare mCrossingOf mBundle mEventOf mDegree mFrom mTo mMet mTape mFive mTold mFar mViews mHullX mHullY mEndX mEndY mMeets mMeetsOf mX mY mD mHeightUp mHeightLow mEventX mEventY mEventD mUpper mLower hR a0 a1
  obtain ⟨n, G, rw, ri, rh, rt, rk, rm⟩ := hR
  obtain ⟨i, rfl, i1, i2⟩ := puI_ex a0
  obtain ⟨k, rfl, k1, k2⟩ := puI_ex a1
  obtain ⟨w1, w2, w3⟩ := id rw
  have hn := w1.1
  obtain ⟨o, eo, o0, ho⟩ := p_drawn w1 w2.1 rk (k0 := enKind) (x0 := enX) (y0 := enY) (l0 := enLower) (f0 := enFromX) (f1 := enFromY) (f2 := enToX) (f3 := enToY)
  obtain ⟨v, hv, ev⟩ := p_noEvent w1 w3 rm (th := mThrown) (one := mOne) (two := mTwo) (sh := mShare) (x0 := mX) (y0 := mY) (d0 := mD) i1 i2
  unfold fX10_event fX11_event
  rw [w2.2.2, xsBd_some eo, ev, xsBd_sm]
  obtain ⟨⟨okp, gN⟩, ⟨-, gtn, gsn⟩, ⟨-, gal⟩, -, ⟨gev, gsz⟩, gbu, ⟨gcr, -, -⟩, gen, ggr⟩ := id ho
  obtain ⟨v1, ⟨-, -⟩, ⟨vev, -⟩, vbu, ⟨vcr, -, -⟩, vgr, -⟩ := id hv
  have pcn := p_checkPlace (k := i) (m := (puCan n G).1) i1 i2 (by omega)
  rw [← gsz] at pcn
  rw [pcn]
  simp only [xsBd_sm]
  by_cases c1 : 0 ≤ i ∧ i < ((puCan n G).1 : Int)
  case neg =>
    rw [puCk_neg c1, puB_pos c1, puE_pos c1]
    simp only [xsTh]
    rw [xsBr_neg (by decide)]
    exact ⟨_, _, rfl, rfl, Or.inr ⟨_, _, rfl, Or.inl rfl, rfl, n, G, rw, ri, rh, rt, Or.inr ⟨o0, ho⟩, Or.inr hv⟩⟩
  rw [puCk_pos c1, puB_neg (fun q => q c1), puE_neg (fun q => q c1)]
  simp only [xsTh]
  rw [xsBr_T, show (9 : Int32) = puI 9 by rfl, p_checkQuestion k1 k2 (by omega), puI_l k1 k2, show (0 : Int64) = puJ 0 by rfl, show (9 : Int64) = puJ 9 by rfl, p_in (by omega) (by omega) (by omega)]
  simp only [xsBd_sm, xsBr_10]
  unfold fX11_event_J26
  simp only
  rw [p_throwsIf, xsBd_sm]
  by_cases c3 : 0 ≤ k ∧ k ≤ 9
  case neg =>
    rw [puCk_neg c3, puB_pos (puB_0.mpr c3), puE_pos (puB_0.mpr c3)]
    simp only [xsTh]
    rw [xsBr_neg (by decide)]
    exact ⟨_, _, rfl, rfl, Or.inr ⟨_, _, rfl, Or.inr rfl, rfl, n, G, rw, ri, rh, rt, Or.inr ⟨o0, ho⟩, Or.inr hv⟩⟩
  have c3' : ¬ puB (0 ≤ k ∧ k ≤ 9) = 0 := puB_n0.mpr c3
  rw [puCk_pos c3, puB_neg c3', puE_neg c3']
  simp only [xsTh]
  rw [xsBr_T]
  obtain ⟨e, rfl, he⟩ : ∃ e : Nat, i = (e : Int) ∧ e < (puCan n G).1 := ⟨i.toNat, by omega, by omega⟩
  rcases (show k = 4 ∨ k = 5 ∨ k = 6 ∨ k = 7 ∨ k = 8 ∨ k = 9 ∨ k ≤ 3 by omega) with h | h | h | h | h | h | h
  · subst h
    rw [xsBr_pos (by first | trivial | rfl), xsBr_pos (by first | trivial | rfl)]
    obtain ⟨r, er, hr⟩ := p_lefts w1 okp gN gen he
    rw [← gsn] at er
    obtain ⟨r2, er2, hr2⟩ := p_endsAt1 w1 w3 vev he gN
    rw [er, er2, puSt_eq hr hr2]
    simp only [xsBd_sm]
    exact ⟨_, _, rfl, rfl, Or.inl ⟨_, rfl, rfl, rfl, n, G, rw, ri, rh, rt, Or.inr ⟨o0, ho⟩, Or.inr hv⟩⟩
  · subst h
    have n4 : ¬ puI 5 = 4 := by decide
    simp only [xsBr_neg n4]
    rw [xsBr_pos (by first | trivial | rfl), xsBr_pos (by first | trivial | rfl)]
    obtain ⟨r, er, hr⟩ := p_rights w1 okp gN gen he
    rw [← gsn] at er
    obtain ⟨r2, er2, hr2⟩ := p_endsAt0 w1 w3 vev he gN
    rw [er, er2, puSt_eq hr hr2]
    simp only [xsBd_sm]
    exact ⟨_, _, rfl, rfl, Or.inl ⟨_, rfl, rfl, rfl, n, G, rw, ri, rh, rt, Or.inr ⟨o0, ho⟩, Or.inr hv⟩⟩
  · subst h
    have n4 : ¬ puI 6 = 4 := by decide
    have n5 : ¬ puI 6 = 5 := by decide
    simp only [xsBr_neg n4, xsBr_neg n5]
    rw [xsBr_pos (by first | trivial | rfl), xsBr_pos (by first | trivial | rfl)]
    obtain ⟨r, er, hr⟩ := p_insides w1 okp gN gen he (gbu e he)
    rw [← gsn] at er
    obtain ⟨r2, er2, hr2⟩ := p_within w1 w3 gN vev he (vbu e he)
    rw [er, er2, puSt_eq hr hr2]
    simp only [xsBd_sm]
    exact ⟨_, _, rfl, rfl, Or.inl ⟨_, rfl, rfl, rfl, n, G, rw, ri, rh, rt, Or.inr ⟨o0, ho⟩, Or.inr hv⟩⟩
  · subst h
    have n4 : ¬ puI 7 = 4 := by decide
    have n5 : ¬ puI 7 = 5 := by decide
    have n6 : ¬ puI 7 = 6 := by decide
    simp only [xsBr_neg n4, xsBr_neg n5, xsBr_neg n6]
    rw [xsBr_pos (by first | trivial | rfl), xsBr_pos (by first | trivial | rfl)]
    rw [xsCk_in (by omega) (by omega) (by omega), xsCk_in (by omega) (by omega) (by omega), puI_clN (by omega), gcr e he, vcr e he]
    exact ⟨_, _, rfl, rfl, Or.inl ⟨_, rfl, rfl, rfl, n, G, rw, ri, rh, rt, Or.inr ⟨o0, ho⟩, Or.inr hv⟩⟩
  · subst h
    have n4 : ¬ puI 8 = 4 := by decide
    have n5 : ¬ puI 8 = 5 := by decide
    have n6 : ¬ puI 8 = 6 := by decide
    have n7 : ¬ puI 8 = 7 := by decide
    simp only [xsBr_neg n4, xsBr_neg n5, xsBr_neg n6, xsBr_neg n7]
    rw [xsBr_pos (by first | trivial | rfl), xsBr_pos (by first | trivial | rfl)]
    have er := p_spread w1 okp gN gal gen he (gbu e he) gtn gsn
    obtain ⟨r2, er2, hr2⟩ := p_mspread w1 w3 gN vev he (vbu e he) (one := v.2.1) (two := v.2.2.1) (sh := v.2.2.2.1) (x := v.2.2.2.2.1) (y := v.2.2.2.2.2.1) (d := v.2.2.2.2.2.2.1)
    rw [er, xsBd_sm, xsBd_some er2, hr2]
    exact ⟨_, _, rfl, rfl, Or.inl ⟨_, rfl, rfl, rfl, n, G, rw, ri, rh, rt, Or.inr ⟨o0, ho⟩, Or.inr hv⟩⟩
  · subst h
    have n4 : ¬ puI 9 = 4 := by decide
    have n5 : ¬ puI 9 = 5 := by decide
    have n6 : ¬ puI 9 = 6 := by decide
    have n7 : ¬ puI 9 = 7 := by decide
    have n8 : ¬ puI 9 = 8 := by decide
    simp only [xsBr_neg n4, xsBr_neg n5, xsBr_neg n6, xsBr_neg n7, xsBr_neg n8]
    rw [xsBr_pos (by first | trivial | rfl), xsBr_pos (by first | trivial | rfl)]
    rw [xsCk_in (by omega) (by omega) (by omega), xsCk_in (by omega) (by omega) (by omega), puI_clN (by omega), ggr.1 e he, vgr.1 e he]
    exact ⟨_, _, rfl, rfl, Or.inl ⟨_, rfl, rfl, rfl, n, G, rw, ri, rh, rt, Or.inr ⟨o0, ho⟩, Or.inr hv⟩⟩
  · have n4 : ¬ puI k = 4 := fun q => by rw [show (4 : Int32) = puI 4 by rfl, puI_eq (by omega) (by omega) (by omega) (by omega)] at q; omega
    have n5 : ¬ puI k = 5 := fun q => by rw [show (5 : Int32) = puI 5 by rfl, puI_eq (by omega) (by omega) (by omega) (by omega)] at q; omega
    have n6 : ¬ puI k = 6 := fun q => by rw [show (6 : Int32) = puI 6 by rfl, puI_eq (by omega) (by omega) (by omega) (by omega)] at q; omega
    have n7 : ¬ puI k = 7 := fun q => by rw [show (7 : Int32) = puI 7 by rfl, puI_eq (by omega) (by omega) (by omega) (by omega)] at q; omega
    have n8 : ¬ puI k = 8 := fun q => by rw [show (8 : Int32) = puI 8 by rfl, puI_eq (by omega) (by omega) (by omega) (by omega)] at q; omega
    have n9 : ¬ puI k = 9 := fun q => by rw [show (9 : Int32) = puI 9 by rfl, puI_eq (by omega) (by omega) (by omega) (by omega)] at q; omega
    have n9' : ¬ puI k = puI 9 := n9
    simp only [xsBr_neg n4, xsBr_neg n5, xsBr_neg n6, xsBr_neg n7, xsBr_neg n8, xsBr_neg n9, xsBr_neg n9']
    simp (disch := omega) only [xsCk_in]
    rw [puI_clN (by omega), p_part (gev e he) (by omega), p_mpart (vev e he) (by omega)]
    simp only [xsBd_sm]
    exact ⟨_, _, rfl, rfl, Or.inl ⟨_, rfl, rfl, rfl, n, G, rw, ri, rh, rt, Or.inr ⟨o0, ho⟩, Or.inr hv⟩⟩

