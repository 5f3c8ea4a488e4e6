/-! PURE: a CROSSING told -/
theorem q_crossing : pc_crossing puRl := by
  intro kIsKept kIsStale hiLatest hiSize scLength scFault scAt scNumber piSegmentsNow enKind enFromX enFromY enToX enToY tiMeetingPairs tiAlongPairs tiSize evSize evCrossings evSegmentsNow grEdges grQueued huSize huBestX huBestY scBytes scTold tiTouching tiLyingAlong evBundle evCrossingOf evEventOf evLeftEvent evRightEvent grDegree grFar grQueue huX huY enX enY enLower evX evY evLower S mThrown mRemembered mHasImage mIsLaid mEvents mCrossings mEdges mTaped mPoint mEnd mBegin mFaultAt mActs mWorld mImage mDraft mEarlier mOne mTwo mShare mCrossingOf mBundle mEventOf mDegree mFrom mTo mMet mTape mFive mTold mFar mViews mHullX mHullY mEndX mEndY mMeets mMeetsOf mX mY mD mHeightUp mHeightLow mEventX mEventY mEventD mUpper mLower hR a0 a1
  obtain ⟨n, G, rw, ri, rh, rt, rk, rm⟩ := hR
  obtain ⟨i, rfl, i1, i2⟩ := puI_ex a0
  obtain ⟨k, rfl, k1, k2⟩ := puI_ex a1
  obtain ⟨w1, w2, w3⟩ := id rw
  have hn := w1.1
  obtain ⟨o, eo, o0, ho⟩ := p_drawn w1 w2.1 rk (k0 := enKind) (x0 := enX) (y0 := enY) (l0 := enLower) (f0 := enFromX) (f1 := enFromY) (f2 := enToX) (f3 := enToY)
  obtain ⟨v, hv, ev⟩ := p_noCrossing w1 w3 rm (th := mThrown) (one := mOne) (two := mTwo) (sh := mShare) (x0 := mX) (y0 := mY) (d0 := mD) i1 i2
  unfold fX10_crossing fX11_crossing
  rw [w2.2.2, xsBd_some eo, ev, xsBd_sm]
  obtain ⟨⟨-, gN⟩, -, -, -, ⟨gev, -⟩, gbu, ⟨-, geo, gnc⟩, -, -⟩ := id ho
  obtain ⟨v1, ⟨-, -⟩, ⟨vev, -⟩, vbu, ⟨-, veo, -⟩, -⟩ := id hv
  have cn := puN_le (puX n G) (puCan n G).1
  have pcn := p_checkPlace (k := i) (m := puN (puX n G) (puCan n G).1) i1 i2 (by omega)
  rw [← gnc] at pcn
  rw [pcn]
  simp only [xsBd_sm]
  by_cases c1 : 0 ≤ i ∧ i < (puN (puX n G) (puCan n G).1 : Int)
  case neg =>
    rw [puCk_neg c1, puB_pos c1, puE_pos c1]
    simp only [xsTh]
    rw [xsBr_neg (by decide)]
    exact ⟨_, _, rfl, rfl, Or.inr ⟨_, _, rfl, Or.inl rfl, rfl, n, G, rw, ri, rh, rt, Or.inr ⟨o0, ho⟩, Or.inr hv⟩⟩
  rw [puCk_pos c1, puB_neg (fun q => q c1), puE_neg (fun q => q c1)]
  simp only [xsTh]
  rw [xsBr_T, show (6 : Int32) = puI 6 by rfl, p_checkQuestion k1 k2 (by omega), puI_l k1 k2, show (0 : Int64) = puJ 0 by rfl, show (6 : Int64) = puJ 6 by rfl, p_in (by omega) (by omega) (by omega)]
  simp only [xsBd_sm, xsBr_10]
  unfold fX11_crossing_J26
  simp only
  rw [p_throwsIf, xsBd_sm]
  by_cases c3 : 0 ≤ k ∧ k ≤ 6
  case neg =>
    rw [puCk_neg c3, puB_pos (puB_0.mpr c3), puE_pos (puB_0.mpr c3)]
    simp only [xsTh]
    rw [xsBr_neg (by decide)]
    exact ⟨_, _, rfl, rfl, Or.inr ⟨_, _, rfl, Or.inr rfl, rfl, n, G, rw, ri, rh, rt, Or.inr ⟨o0, ho⟩, Or.inr hv⟩⟩
  have c3' : ¬ puB (0 ≤ k ∧ k ≤ 6) = 0 := puB_n0.mpr c3
  rw [puCk_pos c3, puB_neg c3', puE_neg c3']
  simp only [xsTh]
  rw [xsBr_T]
  obtain ⟨i', rfl, hi⟩ : ∃ i' : Nat, i = (i' : Int) ∧ i' < puN (puX n G) (puCan n G).1 := ⟨i.toNat, by omega, by omega⟩
  obtain ⟨e, he, hX, hc⟩ := puN_kth hi
  subst hc
  have q1 := geo e he hX
  have q2 := veo e he hX
  have bs := puSt_eq (gbu e he) (vbu e he)
  have bl : ∀ s, puO n G s e → s < 24 := fun s hs => by have := hs.1; omega
  have b1 := gbu e he
  rw [xsCk_in (by omega) (by omega) (by omega), xsCk_in (by omega) (by omega) (by omega), xsLt_eq, xsLt_eq, puI_clN (by omega), q1, q2]
  rw [xsCk_in (by omega) (by omega) (by omega), xsLt_eq]
  rw [puI_clN (by omega)]
  rcases (show k = 4 ∨ k = 5 ∨ k = 6 ∨ k ≤ 3 by omega) with h | h | h | h
  · subst h
    rw [xsBr_pos (by rfl), xsBr_pos (by rfl), xsCk_in (by omega) (by omega) (by omega), ← bs, p_bits, p_kbits b1 bl]
    simp only [xsBd_sm]
    exact ⟨_, _, rfl, rfl, Or.inl ⟨_, rfl, rfl, rfl, n, G, rw, ri, rh, rt, Or.inr ⟨o0, ho⟩, Or.inr hv⟩⟩
  · subst h
    rw [xsBr_neg (by decide), xsBr_pos (by rfl), xsBr_neg (by decide), xsBr_pos (by rfl), xsCk_in (by omega) (by omega) (by omega), ← bs]
    exact ⟨_, _, rfl, rfl, Or.inl ⟨_, rfl, rfl, rfl, n, G, rw, ri, rh, rt, Or.inr ⟨o0, ho⟩, Or.inr hv⟩⟩
  · subst h
    rw [xsBr_neg (by decide), xsBr_neg (by decide), xsBr_pos (by rfl), xsBr_neg (by decide), xsBr_neg (by decide), xsBr_pos (by rfl), xsCk_in (by omega) (by omega) (by omega), ← bs]
    obtain ⟨r1, e1, h1⟩ := p_ktints w1 w2.2.1 (o.2.2.2.2.2.2.2.2.2.2.2.2.2.2.2.2.2.2.1 e)
    obtain ⟨r2, e2, h2⟩ := p_mtints w1 w3 (o.2.2.2.2.2.2.2.2.2.2.2.2.2.2.2.2.2.2.1 e)
    rw [e1, e2, puSt_eq h1 h2]
    simp only [xsBd_sm]
    exact ⟨_, _, rfl, rfl, Or.inl ⟨_, rfl, rfl, rfl, n, G, rw, ri, rh, rt, Or.inr ⟨o0, ho⟩, Or.inr hv⟩⟩
  · have n4 : ¬ puI k = 4 := fun q => by rw [show (4 : Int32) = puI 4 by rfl, puI_eq (by omega) (by omega) (by omega) (by omega)] at q; omega
    have n5 : ¬ puI k = 5 := fun q => by rw [show (5 : Int32) = puI 5 by rfl, puI_eq (by omega) (by omega) (by omega) (by omega)] at q; omega
    have n6 : ¬ puI k = 6 := fun q => by rw [show (6 : Int32) = puI 6 by rfl, puI_eq (by omega) (by omega) (by omega) (by omega)] at q; omega
    have n6' : ¬ puI k = puI 6 := n6
    simp only [xsBr_neg n4, xsBr_neg n5, xsBr_neg n6, xsBr_neg n6']
    simp (disch := omega) only [xsCk_in]
    rw [p_part (gev e he) (by omega), p_mpart (vev e he) (by omega)]
    simp only [xsBd_sm]
    exact ⟨_, _, rfl, rfl, Or.inl ⟨_, rfl, rfl, rfl, n, G, rw, ri, rh, rt, Or.inr ⟨o0, ho⟩, Or.inr hv⟩⟩

