/-! PURE: add, tint, undo, turn, cut, move -/
theorem q_add : pc_add puRl := by
  intro kIsKept kIsStale hiLatest hiSize scLength scFault scAt scNumber piSegmentsNow enKind enFromX enFromY enToX enToY tiMeetingPairs tiAlongPairs tiSize evSize evCrossings evSegmentsNow grEdges grQueued huSize huBestX huBestY scBytes scTold tiTouching tiLyingAlong evBundle evCrossingOf evEventOf evLeftEvent evRightEvent grDegree grFar grQueue huX huY enX enY enLower evX evY evLower S mThrown mRemembered mHasImage mIsLaid mEvents mCrossings mEdges mTaped mPoint mEnd mBegin mFaultAt mActs mWorld mImage mDraft mEarlier mOne mTwo mShare mCrossingOf mBundle mEventOf mDegree mFrom mTo mMet mTape mFive mTold mFar mViews mHullX mHullY mEndX mEndY mMeets mMeetsOf mX mY mD mHeightUp mHeightLow mEventX mEventY mEventD mUpper mLower hR a0 a1 a2 a3 a4
  obtain ⟨n, G, rw, ri, rh, rt, rk, rm⟩ := hR
  obtain ⟨x, rfl, x1, x2⟩ := puI_ex a0
  obtain ⟨y, rfl, y1, y2⟩ := puI_ex a1
  obtain ⟨a, rfl, b1, b2⟩ := puI_ex a2
  obtain ⟨b, rfl, b3, b4⟩ := puI_ex a3
  obtain ⟨z, rfl, z1, z2⟩ := puI_ex a4
  obtain ⟨w1, w2, w3⟩ := id rw
  have hn := w1.1
  have hS : xsSu (xsHs S (fun i => S (4 + i))) 0 ((S 0).1, (S 0).2.1, (S 0).2.2.1, (S 0).2.2.2.1, (S 0).2.2.2.2.1, (S 0).2.2.2.2.2) = S := by rw [xsHs_self]; exact xsSu_self rfl
  unfold fX10_add fX11_add
  rw [p_checkPoint x1 x2 y1 y2, p_isPlace x1 x2 y1 y2, p_isPlace b1 b2 b3 b4, puI_l z1 z2, show (0 : Int64) = puJ 0 by rfl, show (3 : Int64) = puJ 3 by rfl, p_in (by omega) (by omega) (by omega), xsBd_sm, xsBd_sm]
  have ec : xsBr (puB (puInC x ∧ puInC y) = 0) (some (1 : Int32)) (xsBd (some (puB (puInC a ∧ puInC b))) (fun o24 => xsBr (o24 = 0) (some (1 : Int32)) (xsBd (some (puB (0 ≤ z ∧ z ≤ 3))) (fun o26 => xsBr (o26 = 0) (some (1 : Int32)) (some (0 : Int32)))))) = some (puB (¬ ((puInC x ∧ puInC y) ∧ (puInC a ∧ puInC b) ∧ (0 ≤ z ∧ z ≤ 3)))) := by
    by_cases c : puInC x ∧ puInC y
    · rw [pu_bt c, xsBd_sm]
      by_cases d : puInC a ∧ puInC b
      · rw [pu_bt d, xsBd_sm]
        by_cases e : 0 ≤ z ∧ z ≤ 3
        · rw [pu_bt e, puB_neg (fun q => q ⟨c, d, e⟩)]
        · rw [pu_bf e, puB_pos (fun q => e q.2.2)]
      · rw [pu_bf d, puB_pos (fun q => d q.2.1)]
    · rw [pu_bf c, puB_pos (fun q => c q.1)]
  rw [ec, xsBd_sm]
  unfold fX11_add_J41
  rw [p_throwsIf, xsBd_sm]
  by_cases c : puInC x ∧ puInC y
  case neg =>
    have c' : ¬ ((puInC x ∧ puInC y) ∧ (puInC a ∧ puInC b) ∧ (0 ≤ z ∧ z ≤ 3)) := fun q => c q.1
    rw [puCk_neg c, puB_pos c', puE_pos c']
    simp only [xsTh]
    rw [xsBr_neg (by decide)]
    refine ⟨_, _, rfl, rfl, Or.inr ⟨_, _, rfl, Or.inl rfl, rfl, ?_⟩⟩
    dsimp only
    rw [hS]
    exact ⟨n, G, rw, ri, rh, rt, rk, rm⟩
  rw [puCk_pos c]
  simp only [xsTh]
  rw [p_checkPoint b1 b2 b3 b4, xsBd_sm]
  by_cases d : puInC a ∧ puInC b
  case neg =>
    have c' : ¬ ((puInC x ∧ puInC y) ∧ (puInC a ∧ puInC b) ∧ (0 ≤ z ∧ z ≤ 3)) := fun q => d q.2.1
    rw [puCk_neg d, puB_pos c', puE_pos c']
    simp only [xsTh]
    rw [xsBr_neg (by decide)]
    refine ⟨_, _, rfl, rfl, Or.inr ⟨_, _, rfl, Or.inl rfl, rfl, ?_⟩⟩
    dsimp only
    rw [hS]
    exact ⟨n, G, rw, ri, rh, rt, rk, rm⟩
  rw [puCk_pos d]
  simp only [xsTh]
  rw [p_checkTint z1 z2, xsBd_sm]
  by_cases e : 0 ≤ z ∧ z ≤ 3
  case neg =>
    have c' : ¬ ((puInC x ∧ puInC y) ∧ (puInC a ∧ puInC b) ∧ (0 ≤ z ∧ z ≤ 3)) := fun q => e q.2.2
    rw [puCk_neg e, puB_pos c', puE_pos c']
    simp only [xsTh]
    rw [xsBr_neg (by decide)]
    refine ⟨_, _, rfl, rfl, Or.inr ⟨_, _, rfl, Or.inl rfl, rfl, ?_⟩⟩
    dsimp only
    rw [hS]
    exact ⟨n, G, rw, ri, rh, rt, rk, rm⟩
  have c' : ¬ ¬ ((puInC x ∧ puInC y) ∧ (puInC a ∧ puInC b) ∧ (0 ≤ z ∧ z ≤ 3)) := fun q => q ⟨c, d, e⟩
  rw [puCk_pos e, puB_neg c', puE_neg c']
  simp only [xsTh]
  rw [xsBr_T, w2.2.2, p_isFull hn, xsBd_sm, p_many w3, xsBd_sm, show (24 : Int32) = puI ((24 : Nat) : Int) by rfl, xsBr_iff (puI_eqN (by omega) (by omega)), xsBr_10, xsBd_sm]
  unfold fX11_add_J63
  rw [p_throwsIf, xsBd_sm]
  by_cases f : n = 24
  · rw [pu_bt f, puB_pos f, puE_pos f]
    simp only
    rw [xsBr_neg (by decide)]
    refine ⟨_, _, rfl, rfl, Or.inr ⟨_, _, rfl, Or.inr rfl, rfl, ?_⟩⟩
    dsimp only
    rw [← w2.2.2, hS]
    exact ⟨n, G, rw, ri, rh, rt, rk, rm⟩
  obtain ⟨o, o2, eo, eo2, o1, hr⟩ := p_remember (st := kIsStale) rw rh
  rw [w2.2.2] at eo
  obtain ⟨v, ev, hv⟩ := p_append w2 (show n < 24 by omega) c.1 c.2 d.1 d.2 (t := z)
  rw [w2.2.2] at ev
  obtain ⟨v2, ev2, k1, k2, k3⟩ := p_adds w3 (show n < 24 by omega) (ld := mIsLaid) c.1 c.2 d.1 d.2 (t := z)
  rw [pu_bf f, xsBd_some eo, xsBd_some ev, puB_neg f, puE_neg f]
  simp only
  rw [xsBr_T, xsBd_some eo2, xsBd_some ev2]
  refine ⟨_, _, rfl, rfl, Or.inl ⟨_, rfl, ?_, rfl, n + 1, ch_add n G (ch_o x y a b z), ?_, ?_, puRh_S hr (fun i hi => xsSu_ne (by omega)), rt, Or.inl o1, Or.inl k2⟩⟩
  · show v.2.2.2.2.2 - 1 = v2.1
    rw [hv.2.2, k1, puI_p1 (by omega)]; rfl
  · rw [xsSu_eq]
    exact ⟨ch_addV w1 (by omega) (ch_oV c.1 c.2 d.1 d.2 e), hv, k3⟩
  · rw [xsSu_ne (by decide), xsHs_lt (by decide)]; exact ri

theorem q_tint : pc_tint puRl := by
  intro kIsKept kIsStale hiLatest hiSize scLength scFault scAt scNumber piSegmentsNow enKind enFromX enFromY enToX enToY tiMeetingPairs tiAlongPairs tiSize evSize evCrossings evSegmentsNow grEdges grQueued huSize huBestX huBestY scBytes scTold tiTouching tiLyingAlong evBundle evCrossingOf evEventOf evLeftEvent evRightEvent grDegree grFar grQueue huX huY enX enY enLower evX evY evLower S mThrown mRemembered mHasImage mIsLaid mEvents mCrossings mEdges mTaped mPoint mEnd mBegin mFaultAt mActs mWorld mImage mDraft mEarlier mOne mTwo mShare mCrossingOf mBundle mEventOf mDegree mFrom mTo mMet mTape mFive mTold mFar mViews mHullX mHullY mEndX mEndY mMeets mMeetsOf mX mY mD mHeightUp mHeightLow mEventX mEventY mEventD mUpper mLower hR a0 a1
  obtain ⟨n, G, rw, ri, rh, rt, rk, rm⟩ := hR
  obtain ⟨i, rfl, i1, i2⟩ := puI_ex a0
  obtain ⟨z, rfl, z1, z2⟩ := puI_ex a1
  obtain ⟨w1, w2, w3⟩ := id rw
  have hn := w1.1
  have hS : xsSu (xsHs S (fun i => S (4 + i))) 0 ((S 0).1, (S 0).2.1, (S 0).2.2.1, (S 0).2.2.2.1, (S 0).2.2.2.2.1, (S 0).2.2.2.2.2) = S := by rw [xsHs_self]; exact xsSu_self rfl
  unfold fX10_tint fX11_tint
  rw [w2.2.2] at hS
  rw [w2.2.2, p_checkSegment i1 i2 (by omega), p_noSegment hn w3 i1 i2, xsBd_sm, xsBd_sm]
  by_cases c0 : 0 ≤ i ∧ i < (n : Int)
  case neg =>
    rw [puCk_neg c0, puB_pos c0, puE_pos c0]
    simp only [xsTh]
    rw [xsBr_neg (by decide)]
    refine ⟨_, _, rfl, rfl, Or.inr ⟨_, _, rfl, Or.inl rfl, rfl, ?_⟩⟩
    dsimp only
    rw [hS]
    exact ⟨n, G, rw, ri, rh, rt, rk, rm⟩
  rw [puCk_pos c0, puB_neg (fun q => q c0), puE_neg (fun q => q c0)]
  simp only [xsTh]
  rw [xsBr_T, p_checkTint z1 z2, xsBd_sm, puI_l z1 z2, show (0 : Int64) = puJ 0 by rfl, show (3 : Int64) = puJ 3 by rfl, p_in (by omega) (by omega) (by omega), xsBd_sm, xsBr_10, xsBd_sm]
  unfold fX11_tint_J26
  simp only
  rw [p_throwsIf, xsBd_sm]
  by_cases e : 0 ≤ z ∧ z ≤ 3
  case neg =>
    rw [puCk_neg e, puB_pos (puB_0.mpr e), puE_pos (puB_0.mpr e)]
    simp only [xsTh]
    rw [xsBr_neg (by decide)]
    refine ⟨_, _, rfl, rfl, Or.inr ⟨_, _, rfl, Or.inr rfl, rfl, ?_⟩⟩
    dsimp only
    rw [hS]
    exact ⟨n, G, rw, ri, rh, rt, rk, rm⟩
  have e' : ¬ puB (0 ≤ z ∧ z ≤ 3) = 0 := puB_n0.mpr e
  rw [puCk_pos e, puB_neg e', puE_neg e']
  simp only [xsTh]
  rw [xsBr_T]
  obtain ⟨s, rfl, hs⟩ : ∃ s : Nat, i = (s : Int) ∧ s < n := ⟨i.toNat, by omega, by omega⟩
  obtain ⟨o, o2, eo, eo2, o1, hr⟩ := p_remember (st := kIsStale) rw rh
  rw [w2.2.2] at eo
  have kt := w2.2.1 s hs
  have m5 := (w3.2 s hs).2.2.2.2
  have eI : (1 : Int32) + (5 : Int32) * puI (s : Int) + (4 : Int32) = puI ((1 + 5 * s + 4 : Nat) : Int) := by rw [show (5 : Int32) = puI 5 by rfl, show (1 : Int32) = puI 1 by rfl, show (4 : Int32) = puI 4 by rfl, puI_mul, puI_add, puI_add]; congr 1
  rw [xsBd_some eo, xsBd_some eo2, p_of4 (by omega), xsBd_sm, eI]
  simp (disch := omega) only [xsCk_in]
  rw [xsLt_eq, xsLt_eq, xsLt_eq, puI_clN (by omega), puI_clN (by omega), kt, m5]
  have lk : ∀ j, j < n → puLk (G j) (ch_set G s ((G s).1, (G s).2.1, (G s).2.2.1, (G s).2.2.2.1, z) j) := by
    intro j hj
    unfold ch_set
    by_cases ej : j = s
    · subst ej; rw [if_pos rfl]; exact ⟨rfl, rfl, rfl, rfl⟩
    · rw [if_neg ej]; exact ⟨rfl, rfl, rfl, rfl⟩
  have vv : puVal n (ch_set G s ((G s).1, (G s).2.1, (G s).2.2.1, (G s).2.2.2.1, z)) := by
    refine ch_setV w1 ?_
    obtain ⟨v1, -, v3⟩ := w1.2 s hs
    exact ⟨v1, e, v3⟩
  refine ⟨_, _, rfl, rfl, Or.inl ⟨_, rfl, rfl, rfl, n, ch_set G s ((G s).1, (G s).2.1, (G s).2.2.1, (G s).2.2.2.1, z), ?_, ?_, puRh_S hr (fun i hi => xsSu_ne (by omega)), rt, Or.inl o1, ?_⟩⟩
  · rw [xsSu_eq]
    refine ⟨vv, ⟨fun j hj => ?_, fun j hj => ?_, rfl⟩, ?_⟩
    · obtain ⟨k1, k2, k3, k4⟩ := w2.1 j hj
      obtain ⟨l1, l2, l3, l4⟩ := lk j hj
      unfold puQ
      rw [← l1, ← l2, ← l3, ← l4]
      exact ⟨k1, k2, k3, k4⟩
    · unfold ch_set
      dsimp only
      by_cases ej : j = s
      · subst ej; rw [if_pos rfl, puUpd_eq]
      · rw [if_neg ej, puUpd_ne ej]; exact w2.2.1 j hj
    · obtain ⟨k1, k2, k3, k4, -⟩ := w3.2 s hs
      have st : ∀ j, j ≠ 1 + 5 * s + 4 → upd mWorld (1 + 5 * s + 4) (puI z) j = mWorld j := fun j hj => puUpd_ne hj
      refine ⟨(st 0 (by omega)).trans w3.1, fun j hj => ?_⟩
      unfold ch_set
      by_cases ej : j = s
      · subst ej
        rw [if_pos rfl]
        exact ⟨(st _ (by omega)).trans k1, (st _ (by omega)).trans k2, (st _ (by omega)).trans k3, (st _ (by omega)).trans k4, puUpd_eq _ _ _⟩
      · rw [if_neg ej]
        obtain ⟨r1, r2, r3, r4, r5⟩ := w3.2 j hj
        exact ⟨(st _ (by omega)).trans r1, (st _ (by omega)).trans r2, (st _ (by omega)).trans r3, (st _ (by omega)).trans r4, (st _ (by omega)).trans r5⟩
  · rw [xsSu_ne (by decide), xsHs_lt (by decide)]; exact ri
  · rcases rm with rm | ⟨rm1, rm2⟩
    · exact Or.inl rm
    · exact Or.inr ⟨rm1, puMLd_c lk vv rm2⟩

theorem q_undo : pc_undo puRl := by
  intro kIsKept kIsStale hiLatest hiSize scLength scFault scAt scNumber piSegmentsNow enKind enFromX enFromY enToX enToY tiMeetingPairs tiAlongPairs tiSize evSize evCrossings evSegmentsNow grEdges grQueued huSize huBestX huBestY scBytes scTold tiTouching tiLyingAlong evBundle evCrossingOf evEventOf evLeftEvent evRightEvent grDegree grFar grQueue huX huY enX enY enLower evX evY evLower S mThrown mRemembered mHasImage mIsLaid mEvents mCrossings mEdges mTaped mPoint mEnd mBegin mFaultAt mActs mWorld mImage mDraft mEarlier mOne mTwo mShare mCrossingOf mBundle mEventOf mDegree mFrom mTo mMet mTape mFive mTold mFar mViews mHullX mHullY mEndX mEndY mMeets mMeetsOf mX mY mD mHeightUp mHeightLow mEventX mEventY mEventD mUpper mLower hR
  obtain ⟨n, G, rw, ri, rh, rt, rk, rm⟩ := hR
  obtain ⟨w1, w2, w3⟩ := id rw
  have hn := w1.1
  have hS : xsSu S 0 ((S 0).1, (S 0).2.1, (S 0).2.2.1, (S 0).2.2.2.1, (S 0).2.2.2.2.1, (S 0).2.2.2.2.2) = S := xsSu_self rfl
  obtain ⟨h, l, h1, h2, h3, h4, h5, h6⟩ := id rh
  unfold fX10_undo fX11_undo
  have c8 : h < 100 := by omega
  rw [h4, h5, show (0 : Int32) = puI ((0 : Nat) : Int) by rfl, xsBr_iff (puI_eqN (by omega) (by omega)), xsBr_iff (puI_eqN (by omega) (by omega)), show puI ((0 : Nat) : Int) = (0 : Int32) by rfl, xsBr_10, xsBd_sm]
  unfold fX11_undo_J18
  rw [p_throwsIf, xsBd_sm]
  by_cases c : h = 0
  · rw [xsBr_pos c, puB_pos c, puE_pos c]
    simp only
    rw [xsBr_neg (by decide)]
    refine ⟨_, _, rfl, rfl, Or.inr ⟨_, _, rfl, rfl, rfl, ?_⟩⟩
    dsimp only
    rw [← h4, hS]
    exact ⟨n, G, rw, ri, ⟨h, l, h1, h2, h3, h4, h4, h6⟩, rt, rk, rm⟩
  have el : puI (l : Int) + (8 : Int32) - (1 : Int32) = puI ((l + 7 : Nat) : Int) := by rw [show (8 : Int32) = puI 8 by rfl, show (1 : Int32) = puI 1 by rfl, puI_add, puI_sub]; congr 1; omega
  obtain ⟨n', G', v1, v2, v3⟩ := h6 0 (by omega)
  rw [show (l + 8 - 0) % 8 = l by omega] at v2
  rw [show h - 1 - 0 = h - 1 by omega] at v3
  obtain ⟨o, eo, ho1, ho2⟩ := p_become v1.1 v2 (st := kIsStale) (lx := (S 0).1) (ly := (S 0).2.1) (rx := (S 0).2.2.1) (ry := (S 0).2.2.2.1) (ti := (S 0).2.2.2.2.1) (sz := (S 0).2.2.2.2.2)
  obtain ⟨g, eg, hg⟩ := p_copies_v2 (f := mEarlier) (g := mWorld) (a := 121 * (h - 1)) (c := 0) (by omega) (by omega)
  have hm : puMW n' G' g := puMW_0.mp (puMW_cpy v1.1 hg v3)
  rw [xsBr_neg c, puB_neg c, puE_neg c]
  simp only
  rw [xsBr_T, puI_p1 (by omega), xsLt_eq, pu_121, xsBd_some (show fX11_copies_v2 mWorld mEarlier (puI ((121 * (h - 1) : Nat) : Int)) (0 : Int32) = some g from eg)]
  unfold fX3_pop
  rw [h3, xsCk_in (by omega) (by omega) (by omega), xsCk_pos (by decide), el, pu_mod8 (l + 7) (by omega), xsLt_eq, puI_p1 (by omega), xsLt_eq, xsBd_sm, xsCk_in (by omega) (by omega) (by omega), xsLt_eq, puI_clN (by omega)]
  dsimp only
  rw [xsBd_some eo]
  refine ⟨_, _, rfl, rfl, Or.inl ⟨_, rfl, rfl, rfl, n', G', ?_, ?_, ⟨h - 1, (l + 7) % 8, by omega, by omega, rfl, rfl, rfl, fun i hi => ?_⟩, rt, Or.inl ho1, Or.inl rfl⟩⟩
  · rw [xsSu_eq]; exact ⟨v1, ho2, hm⟩
  · rw [xsSu_ne (by decide)]; exact ri
  · rw [xsSu_ne (by omega)]
    have := h6 (i + 1) (by omega)
    rw [show (l + 8 - (i + 1)) % 8 = ((l + 7) % 8 + 8 - i) % 8 by omega, show h - 1 - (i + 1) = h - 1 - 1 - i by omega] at this
    exact this

theorem q_turn : pc_turn puRl := by
  intro kIsKept kIsStale hiLatest hiSize scLength scFault scAt scNumber piSegmentsNow enKind enFromX enFromY enToX enToY tiMeetingPairs tiAlongPairs tiSize evSize evCrossings evSegmentsNow grEdges grQueued huSize huBestX huBestY scBytes scTold tiTouching tiLyingAlong evBundle evCrossingOf evEventOf evLeftEvent evRightEvent grDegree grFar grQueue huX huY enX enY enLower evX evY evLower S mThrown mRemembered mHasImage mIsLaid mEvents mCrossings mEdges mTaped mPoint mEnd mBegin mFaultAt mActs mWorld mImage mDraft mEarlier mOne mTwo mShare mCrossingOf mBundle mEventOf mDegree mFrom mTo mMet mTape mFive mTold mFar mViews mHullX mHullY mEndX mEndY mMeets mMeetsOf mX mY mD mHeightUp mHeightLow mEventX mEventY mEventD mUpper mLower hR
  obtain ⟨n, G, rw, ri, rh, rt, rk, rm⟩ := hR
  obtain ⟨w1, w2, w3⟩ := id rw
  have hn := w1.1
  obtain ⟨o, o2, eo, eo2, o1, hr⟩ := p_remember (st := kIsStale) rw rh
  obtain ⟨v, ev, hv⟩ := p_rotate w1 w2
  obtain ⟨v2, ev2, k1, k2⟩ := p_turns w1 w3 (ld := mIsLaid)
  have vv := ch_turnV w1
  obtain ⟨p, ep, p0, hp⟩ := p_drawn vv hv.1 (st := o.1) (pn := piSegmentsNow) (t := tiTouching) (l := tiLyingAlong) (mp := tiMeetingPairs) (ap := tiAlongPairs) (tn := tiSize) (ex := evX) (ey := evY) (ed := evLower) (bu := evBundle) (cr := evCrossingOf) (eo := evEventOf) (le := evLeftEvent) (re := evRightEvent) (sz := evSize) (nc := evCrossings) (sn := evSegmentsNow) (de := grDegree) (ne := grEdges) (Or.inl o1) (k0 := enKind) (x0 := enX) (y0 := enY) (l0 := enLower) (f0 := enFromX) (f1 := enFromY) (f2 := enToX) (f3 := enToY)
  have lm : v2.2 = 0 ∨ (v2.2 = 1 ∧ puMLd n (ch_turn G) mEventX mEventY mEventD mEvents mCrossingOf mBundle mEventOf mDegree mFrom mTo mCrossings mEdges) := by
    rcases k1 with ⟨z, k1⟩ | k1
    · rw [k1]
      rcases rm with rm | ⟨rm1, rm2⟩
      · exact Or.inl rm
      · exact Or.inr ⟨rm1, puMLd_c (fun s hs => by omega) vv rm2⟩
    · exact Or.inl k1
  obtain ⟨q, eq, hq⟩ := p_lays vv k2 lm (one := mOne) (two := mTwo) (sh := mShare) (x0 := mX) (y0 := mY) (d0 := mD)
  obtain ⟨-, -, -, -, ⟨-, gsz⟩, -⟩ := id hp
  obtain ⟨-, -, ⟨-, vsz⟩, -⟩ := id hq
  have en := hv.2.2
  dsimp only at en
  unfold fX10_turn fX11_turn
  rw [xsBd_some eo, xsBd_some ev, xsBd_some eo2, xsBd_some ev2, xsBd_some eq]
  try dsimp only
  rw [en, xsBd_some ep]
  refine ⟨_, _, rfl, rfl, gsz.trans vsz.symm, n, ch_turn G, ?_, ?_, puRh_S hr (fun i hi => xsSu_ne (by omega)), rt, Or.inr ⟨p0, hp⟩, Or.inr hq⟩
  · rw [xsSu_eq]
    refine ⟨vv, ?_, k2⟩
    exact ⟨hv.1, hv.2.1, rfl⟩
  · rw [xsSu_ne (by decide), xsHs_lt (by decide)]; exact ri

theorem p_crNow {n : Nat} {G : puG} {w : Nat → Int32} (hv : puVal n G) (hw : puMW n G w) {ld : Int32} {one two sh : Nat → Int32} {x0 y0 d0 : Int64} {ex ey ed : Nat → Int64} {sz : Int32} {cr bu eo de fr to : Nat → Int32} {nc ne : Int32} (h : ld = 0 ∨ (ld = 1 ∧ puMLd n G ex ey ed sz cr bu eo de fr to nc ne)) :
    puOk (fX11_crossingsNow w ld one two sh x0 y0 d0 ex ey ed sz cr bu eo de fr to nc ne) (fun o => o.1 = puI (puN (puX n G) (puCan n G).1 : Int) ∧ puML19 n G o.2) := by
  obtain ⟨v, ev, hv2⟩ := p_lays hv hw h (one := one) (two := two) (sh := sh) (x0 := x0) (y0 := y0) (d0 := d0)
  obtain ⟨-, -, -, -, ⟨-, -, vnc⟩, -⟩ := id hv2
  unfold fX11_crossingsNow
  rw [xsBd_some ev]
  exact puOk_some ⟨vnc, hv2⟩
theorem q_cut : pc_cut puRl := by
  intro kIsKept kIsStale hiLatest hiSize scLength scFault scAt scNumber piSegmentsNow enKind enFromX enFromY enToX enToY tiMeetingPairs tiAlongPairs tiSize evSize evCrossings evSegmentsNow grEdges grQueued huSize huBestX huBestY scBytes scTold tiTouching tiLyingAlong evBundle evCrossingOf evEventOf evLeftEvent evRightEvent grDegree grFar grQueue huX huY enX enY enLower evX evY evLower S mThrown mRemembered mHasImage mIsLaid mEvents mCrossings mEdges mTaped mPoint mEnd mBegin mFaultAt mActs mWorld mImage mDraft mEarlier mOne mTwo mShare mCrossingOf mBundle mEventOf mDegree mFrom mTo mMet mTape mFive mTold mFar mViews mHullX mHullY mEndX mEndY mMeets mMeetsOf mX mY mD mHeightUp mHeightLow mEventX mEventY mEventD mUpper mLower hR a0
  obtain ⟨n, G, rw, ri, rh, rt, rk, rm⟩ := hR
  obtain ⟨i, rfl, i1, i2⟩ := puI_ex a0
  obtain ⟨w1, w2, w3⟩ := id rw
  have hn := w1.1
  have hS : xsSu (xsHs S (fun i => S (4 + i))) 0 ((S 0).1, (S 0).2.1, (S 0).2.2.1, (S 0).2.2.2.1, (S 0).2.2.2.2.1, (S 0).2.2.2.2.2) = S := by rw [xsHs_self]; exact xsSu_self rfl
  unfold fX10_cut fX11_cut
  rw [w2.2.2, p_checkSegment i1 i2 (by omega), p_noSegment hn w3 i1 i2, xsBd_sm, xsBd_sm]
  by_cases c0 : 0 ≤ i ∧ i < (n : Int)
  case neg =>
    rw [puCk_neg c0, puB_pos c0, puE_pos c0]
    simp only [xsTh]
    rw [xsBr_neg (by decide)]
    refine ⟨_, _, rfl, rfl, Or.inr ⟨_, _, rfl, rfl, rfl, ?_⟩⟩
    dsimp only
    rw [← w2.2.2, hS]
    exact ⟨n, G, rw, ri, rh, rt, rk, rm⟩
  rw [puCk_pos c0, puB_neg (fun q => q c0), puE_neg (fun q => q c0)]
  simp only [xsTh]
  obtain ⟨s, rfl, hs⟩ : ∃ s : Nat, i = (s : Int) ∧ s < n := ⟨i.toNat, by omega, by omega⟩
  obtain ⟨d, ed, d0, hd⟩ := p_drawn w1 w2.1 rk (k0 := enKind) (x0 := enX) (y0 := enY) (l0 := enLower) (f0 := enFromX) (f1 := enFromY) (f2 := enToX) (f3 := enToY)
  obtain ⟨o, o2, eo, eo2, o1, hr⟩ := p_remember (st := d.1) rw rh
  rw [w2.2.2] at eo
  obtain ⟨v, ev, hv⟩ := p_drop w2 hn hs
  rw [w2.2.2] at ev
  have vv := ch_cutV w1 hs
  obtain ⟨m, em, m1, m2⟩ := p_crNow w1 w3 rm (one := mOne) (two := mTwo) (sh := mShare) (x0 := mX) (y0 := mY) (d0 := mD)
  obtain ⟨v2, ev2, k1, k2⟩ := p_cuts w3 hn hs (ld := m.2.1)
  obtain ⟨e, ee, e0, he⟩ := p_drawn vv hv.1 (st := o.1) (pn := d.2.1) (k0 := d.2.2.1) (x0 := d.2.2.2.1) (y0 := d.2.2.2.2.1) (l0 := d.2.2.2.2.2.1) (f0 := d.2.2.2.2.2.2.1) (f1 := d.2.2.2.2.2.2.2.1) (f2 := d.2.2.2.2.2.2.2.2.1) (f3 := d.2.2.2.2.2.2.2.2.2.1) (t := d.2.2.2.2.2.2.2.2.2.2.1) (l := d.2.2.2.2.2.2.2.2.2.2.2.1) (mp := d.2.2.2.2.2.2.2.2.2.2.2.2.1) (ap := d.2.2.2.2.2.2.2.2.2.2.2.2.2.1) (tn := d.2.2.2.2.2.2.2.2.2.2.2.2.2.2.1) (ex := d.2.2.2.2.2.2.2.2.2.2.2.2.2.2.2.1) (ey := d.2.2.2.2.2.2.2.2.2.2.2.2.2.2.2.2.1) (ed := d.2.2.2.2.2.2.2.2.2.2.2.2.2.2.2.2.2.1) (bu := d.2.2.2.2.2.2.2.2.2.2.2.2.2.2.2.2.2.2.1) (cr := d.2.2.2.2.2.2.2.2.2.2.2.2.2.2.2.2.2.2.2.1) (eo := d.2.2.2.2.2.2.2.2.2.2.2.2.2.2.2.2.2.2.2.2.1) (le := d.2.2.2.2.2.2.2.2.2.2.2.2.2.2.2.2.2.2.2.2.2.1) (re := d.2.2.2.2.2.2.2.2.2.2.2.2.2.2.2.2.2.2.2.2.2.2.1) (sz := d.2.2.2.2.2.2.2.2.2.2.2.2.2.2.2.2.2.2.2.2.2.2.2.1) (nc := d.2.2.2.2.2.2.2.2.2.2.2.2.2.2.2.2.2.2.2.2.2.2.2.2.1) (sn := d.2.2.2.2.2.2.2.2.2.2.2.2.2.2.2.2.2.2.2.2.2.2.2.2.2.1) (de := d.2.2.2.2.2.2.2.2.2.2.2.2.2.2.2.2.2.2.2.2.2.2.2.2.2.2.1) (ne := d.2.2.2.2.2.2.2.2.2.2.2.2.2.2.2.2.2.2.2.2.2.2.2.2.2.2.2) (Or.inl o1)
  obtain ⟨q, eq, q1, q2⟩ := p_crNow vv k2 (ld := v2.2) (one := m.2.2.1) (two := m.2.2.2.1) (sh := m.2.2.2.2.1) (x0 := m.2.2.2.2.2.1) (y0 := m.2.2.2.2.2.2.1) (d0 := m.2.2.2.2.2.2.2.1) (ex := m.2.2.2.2.2.2.2.2.1) (ey := m.2.2.2.2.2.2.2.2.2.1) (ed := m.2.2.2.2.2.2.2.2.2.2.1) (sz := m.2.2.2.2.2.2.2.2.2.2.2.1) (cr := m.2.2.2.2.2.2.2.2.2.2.2.2.1) (bu := m.2.2.2.2.2.2.2.2.2.2.2.2.2.1) (eo := m.2.2.2.2.2.2.2.2.2.2.2.2.2.2.1) (de := m.2.2.2.2.2.2.2.2.2.2.2.2.2.2.2.1) (fr := m.2.2.2.2.2.2.2.2.2.2.2.2.2.2.2.2.1) (to := m.2.2.2.2.2.2.2.2.2.2.2.2.2.2.2.2.2.1) (nc := m.2.2.2.2.2.2.2.2.2.2.2.2.2.2.2.2.2.2.1) (ne := m.2.2.2.2.2.2.2.2.2.2.2.2.2.2.2.2.2.2.2) (Or.inl k1)
  obtain ⟨-, -, -, -, -, -, ⟨-, -, gnc⟩, -, -⟩ := id hd
  obtain ⟨-, -, -, -, -, -, ⟨-, -, gnc2⟩, -, -⟩ := id he
  have en := hv.2.2
  rw [xsBr_T, xsBd_some ed, xsBd_some eo, xsBd_some ev, xsBd_some em, xsBd_some eo2, xsBd_some ev2, xsBd_some eq]
  try dsimp only
  rw [en, xsBd_some ee]
  refine ⟨_, _, rfl, rfl, Or.inl ⟨_, rfl, ?_, rfl, n - 1, ch_cut G s, ?_, ?_, puRh_S hr (fun i hi => xsSu_ne (by omega)), rt, Or.inr ⟨e0, he⟩, Or.inr q2⟩⟩
  · dsimp only
    rw [gnc, gnc2, m1, q1]
  · rw [xsSu_eq]
    refine ⟨vv, ?_, k2⟩
    exact ⟨hv.1, hv.2.1, rfl⟩
  · rw [xsSu_ne (by decide), xsHs_lt (by decide)]; exact ri

theorem q_move : pc_move puRl := by
  intro kIsKept kIsStale hiLatest hiSize scLength scFault scAt scNumber piSegmentsNow enKind enFromX enFromY enToX enToY tiMeetingPairs tiAlongPairs tiSize evSize evCrossings evSegmentsNow grEdges grQueued huSize huBestX huBestY scBytes scTold tiTouching tiLyingAlong evBundle evCrossingOf evEventOf evLeftEvent evRightEvent grDegree grFar grQueue huX huY enX enY enLower evX evY evLower S mThrown mRemembered mHasImage mIsLaid mEvents mCrossings mEdges mTaped mPoint mEnd mBegin mFaultAt mActs mWorld mImage mDraft mEarlier mOne mTwo mShare mCrossingOf mBundle mEventOf mDegree mFrom mTo mMet mTape mFive mTold mFar mViews mHullX mHullY mEndX mEndY mMeets mMeetsOf mX mY mD mHeightUp mHeightLow mEventX mEventY mEventD mUpper mLower hR a0 a1 a2
  obtain ⟨n, G, rw, ri, rh, rt, rk, rm⟩ := hR
  obtain ⟨i, rfl, i1, i2⟩ := puI_ex a0
  obtain ⟨a, rfl, b1, b2⟩ := puI_ex a1
  obtain ⟨b, rfl, b3, b4⟩ := puI_ex a2
  obtain ⟨w1, w2, w3⟩ := id rw
  have hn := w1.1
  have hS : xsSu (xsHs S (fun i => S (4 + i))) 0 ((S 0).1, (S 0).2.1, (S 0).2.2.1, (S 0).2.2.2.1, (S 0).2.2.2.2.1, (S 0).2.2.2.2.2) = S := by rw [xsHs_self]; exact xsSu_self rfl
  unfold fX10_move fX11_move
  rw [w2.2.2] at hS
  rw [w2.2.2, p_checkSegment i1 i2 (by omega), p_noSegment hn w3 i1 i2, xsBd_sm, xsBd_sm]
  by_cases c0 : 0 ≤ i ∧ i < (n : Int)
  case neg =>
    rw [puCk_neg c0, puB_pos c0, puE_pos c0]
    simp only [xsTh]
    rw [xsBr_neg (by decide)]
    refine ⟨_, _, rfl, rfl, Or.inr ⟨_, _, rfl, Or.inl rfl, rfl, ?_⟩⟩
    dsimp only
    rw [hS]
    exact ⟨n, G, rw, ri, rh, rt, rk, rm⟩
  rw [puCk_pos c0, puB_neg (fun q => q c0), puE_neg (fun q => q c0)]
  simp only [xsTh]
  obtain ⟨s, rfl, hs⟩ : ∃ s : Nat, i = (s : Int) ∧ s < n := ⟨i.toNat, by omega, by omega⟩
  rw [xsBr_T, puI_l b1 b2, puI_l b3 b4, p_canShift (w2.1 s hs) (w1.2 s hs) (by omega) b1 b2 b3 b4, xsBd_sm, p_canMove w1 w3 hs b1 b2 b3 b4, xsBd_sm, xsBr_10, xsBd_sm]
  unfold fX11_move_J24
  simp only
  rw [p_throwsIf, xsBd_sm]
  by_cases c : ch_can (G s) a b
  case neg =>
    rw [pu_bf c, puB_pos (puB_0.mpr c), puE_pos (puB_0.mpr c)]
    simp only
    rw [xsBr_neg (by decide)]
    refine ⟨_, _, rfl, rfl, Or.inr ⟨_, _, rfl, Or.inr rfl, rfl, ?_⟩⟩
    dsimp only
    rw [hS]
    exact ⟨n, G, rw, ri, rh, rt, rk, rm⟩
  have c' : ¬ puB (ch_can (G s) a b) = 0 := puB_n0.mpr c
  rw [pu_bt c, puB_neg c', puE_neg c']
  simp only
  obtain ⟨o, o2, eo, eo2, o1, hr⟩ := p_remember (st := kIsStale) rw rh
  rw [w2.2.2] at eo
  obtain ⟨v, ev, hv⟩ := p_shift w2 hn hs a b
  have vv := ch_setV w1 (s := s) (ch_mvV (w1.2 s hs) c)
  obtain ⟨v2, ev2, k1, k2⟩ := p_moves w1 w3 hs (ld := mIsLaid) c
  obtain ⟨p, ep, p0, hp⟩ := p_drawn vv hv.1 (st := o.1) (pn := piSegmentsNow) (t := tiTouching) (l := tiLyingAlong) (mp := tiMeetingPairs) (ap := tiAlongPairs) (tn := tiSize) (ex := evX) (ey := evY) (ed := evLower) (bu := evBundle) (cr := evCrossingOf) (eo := evEventOf) (le := evLeftEvent) (re := evRightEvent) (sz := evSize) (nc := evCrossings) (sn := evSegmentsNow) (de := grDegree) (ne := grEdges) (Or.inl o1) (k0 := enKind) (x0 := enX) (y0 := enY) (l0 := enLower) (f0 := enFromX) (f1 := enFromY) (f2 := enToX) (f3 := enToY)
  obtain ⟨q, eq, q1, q2⟩ := p_crNow vv k2 (ld := v2.2) (ex := mEventX) (ey := mEventY) (ed := mEventD) (sz := mEvents) (cr := mCrossingOf) (bu := mBundle) (eo := mEventOf) (de := mDegree) (fr := mFrom) (to := mTo) (nc := mCrossings) (ne := mEdges) (Or.inl k1) (one := mOne) (two := mTwo) (sh := mShare) (x0 := mX) (y0 := mY) (d0 := mD)
  obtain ⟨-, -, -, -, -, -, ⟨-, -, gnc⟩, -, -⟩ := id hp
  rw [xsBr_T, xsBd_some eo, xsBd_some ev, xsBd_some eo2, xsBd_some ev2, xsBd_some eq]
  dsimp only at ep ⊢
  rw [xsBd_some ep]
  refine ⟨_, _, rfl, rfl, Or.inl ⟨_, rfl, gnc.trans q1.symm, rfl, n, ch_set G s (ch_mv (G s) a b), ?_, ?_, puRh_S hr (fun i hi => xsSu_ne (by omega)), rt, Or.inr ⟨p0, hp⟩, Or.inr q2⟩⟩
  · rw [xsSu_eq]
    refine ⟨vv, ?_, k2⟩
    exact ⟨hv.1, hv.2.1, rfl⟩
  · rw [xsSu_ne (by decide), xsHs_lt (by decide)]; exact ri

