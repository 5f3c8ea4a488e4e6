/-! PURE: count -/
theorem q_count : pc_count puRl := by
  intro kIsKept kIsStale hiLatest hiSize scLength scFault scAt scNumber piSegmentsNow enKind enFromX enFromY enToX enToY tiMeetingPairs tiAlongPairs tiSize evSize evCrossings evSegmentsNow grEdges grQueued huSize huBestX huBestY scBytes scTold tiTouching tiLyingAlong evBundle evCrossingOf evEventOf evLeftEvent evRightEvent grDegree grFar grQueue huX huY enX enY enLower evX evY evLower S mThrown mRemembered mHasImage mIsLaid mEvents mCrossings mEdges mTaped mPoint mEnd mBegin mFaultAt mActs mWorld mImage mDraft mEarlier mOne mTwo mShare mCrossingOf mBundle mEventOf mDegree mFrom mTo mMet mTape mFive mTold mFar mViews mHullX mHullY mEndX mEndY mMeets mMeetsOf mX mY mD mHeightUp mHeightLow mEventX mEventY mEventD mUpper mLower hR a0
  obtain ⟨n, G, rw, ri, rh, rt, rk, rm⟩ := hR
  obtain ⟨k, rfl, k1, k2⟩ := puI_ex a0
  obtain ⟨w1, w2, w3⟩ := id rw
  have hn := w1.1
  obtain ⟨o, eo, o0, ho⟩ := p_drawn w1 w2.1 rk (k0 := enKind) (x0 := enX) (y0 := enY) (l0 := enLower) (f0 := enFromX) (f1 := enFromY) (f2 := enToX) (f3 := enToY)
  obtain ⟨v, ev, hv⟩ := p_lays w1 w3 rm (one := mOne) (two := mTwo) (sh := mShare) (x0 := mX) (y0 := mY) (d0 := mD)
  obtain ⟨⟨okp, gN⟩, ⟨gpn, gtn, gsn⟩, ⟨gt, gal⟩, ⟨gmp, gap⟩, ⟨gev, gsz⟩, gbu, ⟨gcr, geo, gnc⟩, gen, ggr⟩ := id ho
  obtain ⟨v1, ⟨-, -⟩, ⟨vev, vsz⟩, vbu, ⟨vcr, veo, vnc⟩, vgr, -⟩ := id hv
  have Ll : (puES (puOo n G) (puCan n G).1 n).length ≤ 8000 := by
    have a1 := puES_len (O := puOo n G) (N := (puCan n G).1) n
    have a2 : n * (puCan n G).1 ≤ 24 * 324 := Nat.mul_le_mul hn gN
    omega
  unfold fX10_count fX11_count fX10_countFurther
  rw [w2.2.2, xsBd_some eo, xsBd_some ev]
  rcases (show k = 0 ∨ k = 1 ∨ k = 2 ∨ k = 3 ∨ k = 4 ∨ k = 5 ∨ k = 6 ∨ k = 7 ∨ k = 8 ∨ k = 9 ∨ k = 10 ∨ k = 11 ∨ k = 12 ∨ k = 13 ∨ k = 14 ∨ k = 15 ∨ ¬ (0 ≤ k ∧ k ≤ 15) by omega) with h | h | h | h | h | h | h | h | h | h | h | h | h | h | h | h | h
  · subst h
    rw [xsBr_pos (by first | trivial | rfl), xsBr_pos (by first | trivial | rfl)]
    rw [p_many w3, xsBd_sm]
    exact ⟨_, _, rfl, rfl, rfl, n, G, rw, ri, rh, rt, Or.inr ⟨o0, ho⟩, Or.inr hv⟩
  · subst h
    have n0 : ¬ puI 1 = 0 := by decide
    simp only [xsBr_neg n0]
    rw [xsBr_pos (by first | trivial | rfl), xsBr_pos (by first | trivial | rfl)]
    exact ⟨_, _, rfl, rfl, gnc.trans vnc.symm, n, G, rw, ri, rh, rt, Or.inr ⟨o0, ho⟩, Or.inr hv⟩
  · subst h
    have n0 : ¬ puI 2 = 0 := by decide
    have n1 : ¬ puI 2 = 1 := by decide
    simp only [xsBr_neg n0, xsBr_neg n1]
    rw [xsBr_pos (by first | trivial | rfl), xsBr_pos (by first | trivial | rfl)]
    exact ⟨_, _, rfl, rfl, gsz.trans vsz.symm, n, G, rw, ri, rh, rt, Or.inr ⟨o0, ho⟩, Or.inr hv⟩
  · subst h
    have n0 : ¬ puI 3 = 0 := by decide
    have n1 : ¬ puI 3 = 1 := by decide
    have n2 : ¬ puI 3 = 2 := by decide
    simp only [xsBr_neg n0, xsBr_neg n1, xsBr_neg n2]
    rw [xsBr_pos (by first | trivial | rfl), xsBr_pos (by first | trivial | rfl)]
    obtain ⟨r, er, hr⟩ := p_pairs w1 w3 (k := 2) (by omega) (one := v.2.1) (two := v.2.2.1) (sh := v.2.2.2.1) (x := v.2.2.2.2.1) (y := v.2.2.2.2.2.1) (d := v.2.2.2.2.2.2.1)
    rw [show (2 : Int32) = puI ((2 : Nat) : Int) by rfl, xsBd_some er]
    exact ⟨_, _, rfl, rfl, gap.trans hr.symm, n, G, rw, ri, rh, rt, Or.inr ⟨o0, ho⟩, Or.inr hv⟩
  · subst h
    have n0 : ¬ puI 4 = 0 := by decide
    have n1 : ¬ puI 4 = 1 := by decide
    have n2 : ¬ puI 4 = 2 := by decide
    have n3 : ¬ puI 4 = 3 := by decide
    simp only [xsBr_neg n0, xsBr_neg n1, xsBr_neg n2, xsBr_neg n3]
    rw [xsBr_pos (by first | trivial | rfl), xsBr_pos (by first | trivial | rfl)]
    exact ⟨_, _, rfl, rfl, ggr.2.trans vgr.2.symm, n, G, rw, ri, rh, rt, Or.inr ⟨o0, ho⟩, Or.inr hv⟩
  · subst h
    have n0 : ¬ puI 5 = 0 := by decide
    have n1 : ¬ puI 5 = 1 := by decide
    have n2 : ¬ puI 5 = 2 := by decide
    have n3 : ¬ puI 5 = 3 := by decide
    have n4 : ¬ puI 5 = 4 := by decide
    simp only [xsBr_neg n0, xsBr_neg n1, xsBr_neg n2, xsBr_neg n3, xsBr_neg n4]
    rw [xsBr_pos (by first | trivial | rfl), xsBr_pos (by first | trivial | rfl)]
    obtain ⟨r, er, hr⟩ := p_partsM w1 w3 (one := v.2.1) (two := v.2.2.1) (sh := v.2.2.2.1) (x := v.2.2.2.2.1) (y := v.2.2.2.2.2.1) (d := v.2.2.2.2.2.2.1)
    rw [p_partsK w1 gt gtn, xsBd_sm, xsBd_some er]
    exact ⟨_, _, rfl, rfl, hr.symm, n, G, rw, ri, rh, rt, Or.inr ⟨o0, ho⟩, Or.inr hv⟩
  · subst h
    have n0 : ¬ puI 6 = 0 := by decide
    have n1 : ¬ puI 6 = 1 := by decide
    have n2 : ¬ puI 6 = 2 := by decide
    have n3 : ¬ puI 6 = 3 := by decide
    have n4 : ¬ puI 6 = 4 := by decide
    have n5 : ¬ puI 6 = 5 := by decide
    simp only [xsBr_neg n0, xsBr_neg n1, xsBr_neg n2, xsBr_neg n3, xsBr_neg n4, xsBr_neg n5]
    rw [xsBr_pos (by first | trivial | rfl), xsBr_pos (by first | trivial | rfl)]
    obtain ⟨r, er, hr⟩ := p_partsM w1 w3 (one := v.2.1) (two := v.2.2.1) (sh := v.2.2.2.1) (x := v.2.2.2.2.1) (y := v.2.2.2.2.2.1) (d := v.2.2.2.2.2.2.1)
    unfold fX5_faces
    rw [p_partsK w1 gt gtn, xsBd_sm, xsBd_sm, xsBd_some er]
    refine ⟨_, _, rfl, rfl, ?_, n, G, rw, ri, rh, rt, Or.inr ⟨o0, ho⟩, Or.inr hv⟩
    dsimp only
    rw [ggr.2, gsz, vgr.2, vsz, hr]
  · subst h
    have n0 : ¬ puI 7 = 0 := by decide
    have n1 : ¬ puI 7 = 1 := by decide
    have n2 : ¬ puI 7 = 2 := by decide
    have n3 : ¬ puI 7 = 3 := by decide
    have n4 : ¬ puI 7 = 4 := by decide
    have n5 : ¬ puI 7 = 5 := by decide
    have n6 : ¬ puI 7 = 6 := by decide
    simp only [xsBr_neg n0, xsBr_neg n1, xsBr_neg n2, xsBr_neg n3, xsBr_neg n4, xsBr_neg n5, xsBr_neg n6]
    rw [xsBr_pos (by first | trivial | rfl), xsBr_pos (by first | trivial | rfl)]
    rw [p_grBu hn gN gbu geo gnc, xsBd_sm, p_wiBu hn gN vbu veo vnc, xsBd_sm]
    exact ⟨_, _, rfl, rfl, rfl, n, G, rw, ri, rh, rt, Or.inr ⟨o0, ho⟩, Or.inr hv⟩
  · subst h
    have n0 : ¬ puI 8 = 0 := by decide
    have n1 : ¬ puI 8 = 1 := by decide
    have n2 : ¬ puI 8 = 2 := by decide
    have n3 : ¬ puI 8 = 3 := by decide
    have n4 : ¬ puI 8 = 4 := by decide
    have n5 : ¬ puI 8 = 5 := by decide
    have n6 : ¬ puI 8 = 6 := by decide
    have n7 : ¬ puI 8 = 7 := by decide
    simp only [xsBr_neg n0, xsBr_neg n1, xsBr_neg n2, xsBr_neg n3, xsBr_neg n4, xsBr_neg n5, xsBr_neg n6, xsBr_neg n7]
    rw [xsBr_pos (by first | trivial | rfl), xsBr_pos (by first | trivial | rfl)]
    obtain ⟨m, f, b1, b2, b3, hm, e1, e2⟩ := p_grSt w1 okp gN gen gsz gsn
    obtain ⟨r, er, m', f', b4, hm', hr⟩ := p_moSt w1 w3 gN vev vsz (met := mMet) (up := mUpper) (lo := mLower) (which := 0)
    obtain ⟨z1, z2⟩ := co_m_u hm hm'
    have hr' := (hr.resolve_right (fun q => q.1 rfl)).2
    rw [e1, xsBd_sm, xsBd_sm, xsBd_some er]
    refine ⟨_, _, rfl, rfl, ?_, n, G, rw, ri, rh, rt, Or.inr ⟨o0, ho⟩, Or.inr hv⟩
    dsimp only
    rw [hr', z1]
  · subst h
    have n0 : ¬ puI 9 = 0 := by decide
    have n1 : ¬ puI 9 = 1 := by decide
    have n2 : ¬ puI 9 = 2 := by decide
    have n3 : ¬ puI 9 = 3 := by decide
    have n4 : ¬ puI 9 = 4 := by decide
    have n5 : ¬ puI 9 = 5 := by decide
    have n6 : ¬ puI 9 = 6 := by decide
    have n7 : ¬ puI 9 = 7 := by decide
    have n8 : ¬ puI 9 = 8 := by decide
    simp only [xsBr_neg n0, xsBr_neg n1, xsBr_neg n2, xsBr_neg n3, xsBr_neg n4, xsBr_neg n5, xsBr_neg n6, xsBr_neg n7, xsBr_neg n8]
    rw [xsBr_pos (by first | trivial | rfl), xsBr_pos (by first | trivial | rfl)]
    obtain ⟨m, f, b1, b2, b3, hm, e1, e2⟩ := p_grSt w1 okp gN gen gsz gsn
    obtain ⟨r, er, m', f', b4, hm', hr⟩ := p_moSt w1 w3 gN vev vsz (met := mMet) (up := mUpper) (lo := mLower) (which := 1)
    obtain ⟨z1, z2⟩ := co_m_u hm hm'
    have hr' := (hr.resolve_left (fun q => absurd q.1 (by decide))).2
    rw [e1, xsBd_sm, e2, xsBd_sm, xsBd_sm, xsBd_some er]
    refine ⟨_, _, rfl, rfl, ?_, n, G, rw, ri, rh, rt, Or.inr ⟨o0, ho⟩, Or.inr hv⟩
    dsimp only
    rw [hr', z2]
  · subst h
    have n0 : ¬ puI 10 = 0 := by decide
    have n1 : ¬ puI 10 = 1 := by decide
    have n2 : ¬ puI 10 = 2 := by decide
    have n3 : ¬ puI 10 = 3 := by decide
    have n4 : ¬ puI 10 = 4 := by decide
    have n5 : ¬ puI 10 = 5 := by decide
    have n6 : ¬ puI 10 = 6 := by decide
    have n7 : ¬ puI 10 = 7 := by decide
    have n8 : ¬ puI 10 = 8 := by decide
    have n9 : ¬ puI 10 = 9 := by decide
    simp only [xsBr_neg n0, xsBr_neg n1, xsBr_neg n2, xsBr_neg n3, xsBr_neg n4, xsBr_neg n5, xsBr_neg n6, xsBr_neg n7, xsBr_neg n8, xsBr_neg n9]
    rw [xsBr_pos (by first | trivial | rfl), xsBr_pos (by first | trivial | rfl)]
    obtain ⟨m, f, hm, e1⟩ := p_blameK w1 gN gal gbu geo gpn gtn gnc
    obtain ⟨r, er, ⟨m', f', hm', hr⟩, E1, E2, E3⟩ := p_blameM w1 w3 okp gN ⟨vev, vsz, vcr⟩ vnc (one := v.2.1) (two := v.2.2.1) (sh := v.2.2.2.1) (x := v.2.2.2.2.1) (y := v.2.2.2.2.2.1) (d := v.2.2.2.2.2.2.1) (ym := mMeets) (yo := mMeetsOf)
    obtain ⟨z1, z2⟩ := co_m_u hm hm'
    rw [e1, xsBd_sm, xsBd_sm, xsBd_some er]
    obtain ⟨u1, u2, u3, u4, ⟨u5, u6, u7⟩, u8, u9⟩ := id hv
    refine ⟨_, _, rfl, rfl, ?_, n, G, rw, ri, rh, rt, Or.inr ⟨o0, ho⟩, Or.inr ⟨u1, u2, ⟨E1, E2⟩, u4, ⟨E3, u6, u7⟩, u8, u9⟩⟩
    dsimp only
    rw [hr, z2]
  · subst h
    have n0 : ¬ puI 11 = 0 := by decide
    have n1 : ¬ puI 11 = 1 := by decide
    have n2 : ¬ puI 11 = 2 := by decide
    have n3 : ¬ puI 11 = 3 := by decide
    have n4 : ¬ puI 11 = 4 := by decide
    have n5 : ¬ puI 11 = 5 := by decide
    have n6 : ¬ puI 11 = 6 := by decide
    have n7 : ¬ puI 11 = 7 := by decide
    have n8 : ¬ puI 11 = 8 := by decide
    have n9 : ¬ puI 11 = 9 := by decide
    have n10 : ¬ puI 11 = 10 := by decide
    simp only [xsBr_neg n0, xsBr_neg n1, xsBr_neg n2, xsBr_neg n3, xsBr_neg n4, xsBr_neg n5, xsBr_neg n6, xsBr_neg n7, xsBr_neg n8, xsBr_neg n9, xsBr_neg n10]
    rw [xsBr_pos (by first | trivial | rfl), xsBr_pos (by first | trivial | rfl)]
    obtain ⟨hh, l, h1, h2, h3, h4, h5, h6⟩ := id rh
    rw [xsBd_sm]
    exact ⟨_, _, rfl, rfl, h4.trans h5.symm, n, G, rw, ri, rh, rt, Or.inr ⟨o0, ho⟩, Or.inr hv⟩
  · subst h
    have n0 : ¬ puI 12 = 0 := by decide
    have n1 : ¬ puI 12 = 1 := by decide
    have n2 : ¬ puI 12 = 2 := by decide
    have n3 : ¬ puI 12 = 3 := by decide
    have n4 : ¬ puI 12 = 4 := by decide
    have n5 : ¬ puI 12 = 5 := by decide
    have n6 : ¬ puI 12 = 6 := by decide
    have n7 : ¬ puI 12 = 7 := by decide
    have n8 : ¬ puI 12 = 8 := by decide
    have n9 : ¬ puI 12 = 9 := by decide
    have n10 : ¬ puI 12 = 10 := by decide
    have n11 : ¬ puI 12 = 11 := by decide
    simp only [xsBr_neg n0, xsBr_neg n1, xsBr_neg n2, xsBr_neg n3, xsBr_neg n4, xsBr_neg n5, xsBr_neg n6, xsBr_neg n7, xsBr_neg n8, xsBr_neg n9, xsBr_neg n10, xsBr_neg n11]
    rw [xsBr_pos (by first | trivial | rfl), xsBr_pos (by first | trivial | rfl)]
    rw [p_oddK gN Ll ggr.1 gsz, xsBd_sm, xsBd_sm, p_oddM gN Ll vgr.1 vsz, xsBd_sm]
    exact ⟨_, _, rfl, rfl, rfl, n, G, rw, ri, rh, rt, Or.inr ⟨o0, ho⟩, Or.inr hv⟩
  · subst h
    have n0 : ¬ puI 13 = 0 := by decide
    have n1 : ¬ puI 13 = 1 := by decide
    have n2 : ¬ puI 13 = 2 := by decide
    have n3 : ¬ puI 13 = 3 := by decide
    have n4 : ¬ puI 13 = 4 := by decide
    have n5 : ¬ puI 13 = 5 := by decide
    have n6 : ¬ puI 13 = 6 := by decide
    have n7 : ¬ puI 13 = 7 := by decide
    have n8 : ¬ puI 13 = 8 := by decide
    have n9 : ¬ puI 13 = 9 := by decide
    have n10 : ¬ puI 13 = 10 := by decide
    have n11 : ¬ puI 13 = 11 := by decide
    have n12 : ¬ puI 13 = 12 := by decide
    simp only [xsBr_neg n0, xsBr_neg n1, xsBr_neg n2, xsBr_neg n3, xsBr_neg n4, xsBr_neg n5, xsBr_neg n6, xsBr_neg n7, xsBr_neg n8, xsBr_neg n9, xsBr_neg n10, xsBr_neg n11, xsBr_neg n12]
    rw [xsBr_pos (by first | trivial | rfl), xsBr_pos (by first | trivial | rfl)]
    have e1 := p_sprK w1 okp gN gal gen gbu geo gtn gsn gnc
    rw [co_spr w1] at e1
    obtain ⟨r, er, hr⟩ := p_sprM w1 w3 gN vev vbu vsz (one := v.2.1) (two := v.2.2.1) (sh := v.2.2.2.1) (x := v.2.2.2.2.1) (y := v.2.2.2.2.2.1) (d := v.2.2.2.2.2.2.1)
    rw [e1, xsBd_sm, xsBd_sm, xsBd_some er]
    exact ⟨_, _, rfl, rfl, hr.symm, n, G, rw, ri, rh, rt, Or.inr ⟨o0, ho⟩, Or.inr hv⟩
  · subst h
    have n0 : ¬ puI 14 = 0 := by decide
    have n1 : ¬ puI 14 = 1 := by decide
    have n2 : ¬ puI 14 = 2 := by decide
    have n3 : ¬ puI 14 = 3 := by decide
    have n4 : ¬ puI 14 = 4 := by decide
    have n5 : ¬ puI 14 = 5 := by decide
    have n6 : ¬ puI 14 = 6 := by decide
    have n7 : ¬ puI 14 = 7 := by decide
    have n8 : ¬ puI 14 = 8 := by decide
    have n9 : ¬ puI 14 = 9 := by decide
    have n10 : ¬ puI 14 = 10 := by decide
    have n11 : ¬ puI 14 = 11 := by decide
    have n12 : ¬ puI 14 = 12 := by decide
    have n13 : ¬ puI 14 = 13 := by decide
    simp only [xsBr_neg n0, xsBr_neg n1, xsBr_neg n2, xsBr_neg n3, xsBr_neg n4, xsBr_neg n5, xsBr_neg n6, xsBr_neg n7, xsBr_neg n8, xsBr_neg n9, xsBr_neg n10, xsBr_neg n11, xsBr_neg n12, xsBr_neg n13]
    rw [xsBr_pos (by first | trivial | rfl), xsBr_pos (by first | trivial | rfl)]
    obtain ⟨p, ep, hp⟩ := p_wrap w1 w2.1 (X := huX) (Y := huY) (sz := huSize) (x0 := huBestX) (y0 := huBestY)
    obtain ⟨r, er, hr⟩ := p_laysHull w1 w3 (X := mHullX) (Y := mHullY) (eX := mEndX) (eY := mEndY)
    obtain ⟨K, hK, z1, z2, -⟩ := hu_r_u hp hr hn
    rw [xsBd_some ep, xsBd_sm, xsBd_some er]
    exact ⟨_, _, rfl, rfl, z1.trans z2.symm, n, G, rw, ri, rh, rt, Or.inr ⟨o0, ho⟩, Or.inr hv⟩
  · subst h
    have n0 : ¬ puI 15 = 0 := by decide
    have n1 : ¬ puI 15 = 1 := by decide
    have n2 : ¬ puI 15 = 2 := by decide
    have n3 : ¬ puI 15 = 3 := by decide
    have n4 : ¬ puI 15 = 4 := by decide
    have n5 : ¬ puI 15 = 5 := by decide
    have n6 : ¬ puI 15 = 6 := by decide
    have n7 : ¬ puI 15 = 7 := by decide
    have n8 : ¬ puI 15 = 8 := by decide
    have n9 : ¬ puI 15 = 9 := by decide
    have n10 : ¬ puI 15 = 10 := by decide
    have n11 : ¬ puI 15 = 11 := by decide
    have n12 : ¬ puI 15 = 12 := by decide
    have n13 : ¬ puI 15 = 13 := by decide
    have n14 : ¬ puI 15 = 14 := by decide
    simp only [xsBr_neg n0, xsBr_neg n1, xsBr_neg n2, xsBr_neg n3, xsBr_neg n4, xsBr_neg n5, xsBr_neg n6, xsBr_neg n7, xsBr_neg n8, xsBr_neg n9, xsBr_neg n10, xsBr_neg n11, xsBr_neg n12, xsBr_neg n13, xsBr_neg n14]
    rw [xsBr_pos (by first | trivial | rfl), xsBr_pos (by first | trivial | rfl)]
    obtain ⟨r, er, hr⟩ := p_pairs w1 w3 (k := 1) (by omega) (one := v.2.1) (two := v.2.2.1) (sh := v.2.2.2.1) (x := v.2.2.2.2.1) (y := v.2.2.2.2.2.1) (d := v.2.2.2.2.2.2.1)
    rw [xsBd_sm, show (1 : Int32) = puI ((1 : Nat) : Int) by rfl, xsBd_some er]
    exact ⟨_, _, rfl, rfl, gmp.trans hr.symm, n, G, rw, ri, rh, rt, Or.inr ⟨o0, ho⟩, Or.inr hv⟩
  · have nk : ∀ z : Int, 0 ≤ z → z ≤ 15 → ¬ puI k = puI z := fun z z1 z2 q => by rw [puI_eq (by omega) (by omega) (by omega) (by omega)] at q; omega
    have n0 : ¬ puI k = 0 := nk 0 (by omega) (by omega)
    have n1 : ¬ puI k = 1 := nk 1 (by omega) (by omega)
    have n2 : ¬ puI k = 2 := nk 2 (by omega) (by omega)
    have n3 : ¬ puI k = 3 := nk 3 (by omega) (by omega)
    have n4 : ¬ puI k = 4 := nk 4 (by omega) (by omega)
    have n5 : ¬ puI k = 5 := nk 5 (by omega) (by omega)
    have n6 : ¬ puI k = 6 := nk 6 (by omega) (by omega)
    have n7 : ¬ puI k = 7 := nk 7 (by omega) (by omega)
    have n8 : ¬ puI k = 8 := nk 8 (by omega) (by omega)
    have n9 : ¬ puI k = 9 := nk 9 (by omega) (by omega)
    have n10 : ¬ puI k = 10 := nk 10 (by omega) (by omega)
    have n11 : ¬ puI k = 11 := nk 11 (by omega) (by omega)
    have n12 : ¬ puI k = 12 := nk 12 (by omega) (by omega)
    have n13 : ¬ puI k = 13 := nk 13 (by omega) (by omega)
    have n14 : ¬ puI k = 14 := nk 14 (by omega) (by omega)
    have n15 : ¬ puI k = 15 := nk 15 (by omega) (by omega)
    simp only [xsBr_neg n0, xsBr_neg n1, xsBr_neg n2, xsBr_neg n3, xsBr_neg n4, xsBr_neg n5, xsBr_neg n6, xsBr_neg n7, xsBr_neg n8, xsBr_neg n9, xsBr_neg n10, xsBr_neg n11, xsBr_neg n12, xsBr_neg n13, xsBr_neg n14, xsBr_neg n15]
    rw [xsBd_sm]
    exact ⟨_, _, rfl, rfl, rfl, n, G, rw, ri, rh, rt, Or.inr ⟨o0, ho⟩, Or.inr hv⟩

