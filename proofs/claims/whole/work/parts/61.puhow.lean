/-! PURE: how two SEGMENTS stand, where they meet, along what -/
def puXi (n : Nat) (k : Int) : Prop := 0 ≤ k ∧ k < (n : Int)
theorem p_seg {k : Int} {m : Nat} (h1 : -2147483648 ≤ k) (h2 : k ≤ 2147483647) (hm : m ≤ 100000) : fX10_checkSegment (puI (m : Int)) (puI k) = some (puCk (puXi m k) 3) := p_checkSegment h1 h2 hm
theorem p_noSeg {n : Nat} {G : puG} {w : Nat → Int32} (hn : n ≤ 24) (hw : puMW n G w) {th : Int32} {k : Int} (h1 : -2147483648 ≤ k) (h2 : k ≤ 2147483647) : fX11_noSegment th w (puI k) = some (puB (¬ puXi n k), puE (¬ puXi n k) 1 0) := p_noSegment hn hw h1 h2
theorem p_noTwo {n : Nat} {G : puG} {w : Nat → Int32} (hn : n ≤ 24) (hw : puMW n G w) {th : Int32} {i j : Int} (h1 : -2147483648 ≤ i) (h2 : i ≤ 2147483647) (h3 : -2147483648 ≤ j) (h4 : j ≤ 2147483647) : fX11_noTwo th w (puI i) (puI j) = some (puB (¬ (puXi n i ∧ puXi n j)), puE (¬ (puXi n i ∧ puXi n j)) 1 0) := by
  unfold fX11_noTwo
  rw [p_noSeg hn hw h1 h2, xsBd_sm]
  by_cases c1 : puXi n i
  · rw [puB_neg (fun q => q c1)]
    simp only
    rw [xsBr_T, p_noSeg hn hw h3 h4, xsBd_sm]
    by_cases c2 : puXi n j
    · rw [puB_neg (fun q => q c2), puE_neg (fun q => q c2), puB_neg (fun q => q ⟨c1, c2⟩), puE_neg (fun q => q ⟨c1, c2⟩)]
      simp only
      rw [xsBr_T]
    · rw [puB_pos c2, puE_pos c2, puB_pos (fun q => c2 q.2), puE_pos (fun q => c2 q.2)]
      simp only
      rw [xsBr_neg (by decide)]
  · rw [puB_pos c1, puE_pos c1, puB_pos (fun q => c1 q.1), puE_pos (fun q => c1 q.1)]
    simp only
    rw [xsBr_neg (by decide)]
theorem p_enc {n : Nat} {G : puG} {lx ly rx ry : Nat → Int32} (hv : puVal n G) (hk : puKW n G lx ly rx ry) {i j : Nat} (hi : i < n) (hj : j < n) {k0 : Int32} {x0 y0 l0 : Int64} {c0 c1 c2 c3 : Int32} : puOk (fX10_encounterOf k0 x0 y0 l0 c0 c1 c2 c3 lx ly rx ry (puI (i : Int)) (puI (j : Int))) (puSd (G i) (G j)) := by
  have hn := hv.1
  obtain ⟨r, er, hr⟩ := p_study (hk i hi) (hk j hj) (hv.2 i hi) (hv.2 j hj) (by omega) (by omega) (k0 := k0) (x0 := x0) (y0 := y0) (l0 := l0) (c0 := c0) (c1 := c1) (c2 := c2) (c3 := c3)
  unfold fX10_encounterOf
  rw [xsBd_some er]
  exact puOk_some hr
def puSame (a b : puS) : Prop := a.1 = b.1 ∧ a.2.1 = b.2.1 ∧ a.2.2.1 = b.2.2.1 ∧ a.2.2.2.1 = b.2.2.2.1
theorem p_hsame {n : Nat} {G : puG} {w : Nat → Int32} (hv : puVal n G) (hw : puMW n G w) {i j : Nat} (hi : i < n) (hj : j < n) : xsWh (fun s3 => fX11_howOf_L5 w (puI (i : Int)) (puI (j : Int)) s3.1 s3.2) ((1 : Int32), (0 : Int32)) = some (puB (puSame (G i) (G j))) := by
  have hn := hv.1
  have key : puOk (xsWh (fun s3 => fX11_howOf_L5 w (puI (i : Int)) (puI (j : Int)) s3.1 s3.2) ((1 : Int32), (0 : Int32))) (fun r => r = puB (∀ c, c < 4 → w (1 + 5 * i + c) = w (1 + 5 * j + c))) := by
    refine puFor1 4 (fun k z => z.2 = puI (k : Int) ∧ z.1 = puB (∀ c, c < k → w (1 + 5 * i + c) = w (1 + 5 * j + c))) _ ⟨rfl, (puB_pos (fun c hc => absurd hc (by omega))).symm⟩ ?_ ?_
    · rintro k ⟨b, c⟩ hk ⟨rfl, rfl⟩
      simp only [fX11_howOf_L5]
      rw [xsBr_neg (by rw [puI_lit, puI_le (by omega) (by omega) (by omega) (by omega)]; omega)]
      have nx : puI (k : Int) + 1 = puI ((k + 1 : Nat) : Int) := puI_s1 k
      by_cases c : ∀ c, c < k → w (1 + 5 * i + c) = w (1 + 5 * j + c)
      · rw [xsBr_neg (by rw [puB_pos c]; decide), p_of (by omega) (by omega), p_of (by omega) (by omega), xsBd_sm, xsBd_sm, xsBr_10, xsBd_sm]
        simp only [fX11_howOf_J37]
        rw [xsLt_eq, nx]
        refine ⟨_, rfl, rfl, puB_iff ⟨fun q m hm => ?_, fun q => q k (by omega)⟩⟩
        by_cases em : m = k
        · subst em; exact q
        · exact c m (by omega)
      · rw [xsBr_pos (puB_neg c), xsBd_sm]
        simp only [fX11_howOf_J37]
        rw [xsLt_eq, nx]
        exact ⟨_, rfl, rfl, (puB_neg (fun q => c (fun m hm => q m (by omega)))).symm⟩
    · rintro ⟨b, c⟩ ⟨rfl, rfl⟩
      simp only [fX11_howOf_L5]
      rw [xsBr_pos (by rw [puI_lit, puI_le (by omega) (by omega) (by omega) (by omega)]; omega)]
      exact ⟨_, rfl, rfl⟩
  obtain ⟨r, er, rfl⟩ := key
  rw [er]
  refine congrArg some (puB_iff ?_)
  obtain ⟨a0, a1, a2, a3, -⟩ := hw.2 i hi
  obtain ⟨b0, b1, b2, b3, -⟩ := hw.2 j hj
  obtain ⟨⟨u1, u2, u3, u4⟩, -, -⟩ := hv.2 i hi
  obtain ⟨⟨v1, v2, v3, v4⟩, -, -⟩ := hv.2 j hj
  have q0 : w (1 + 5 * i + 0) = w (1 + 5 * j + 0) ↔ (G i).1 = (G j).1 := by
    rw [Nat.add_zero, Nat.add_zero, a0, b0]; exact puI_eq (by omega) (by omega) (by omega) (by omega)
  have q1 : w (1 + 5 * i + 1) = w (1 + 5 * j + 1) ↔ (G i).2.1 = (G j).2.1 := by
    rw [a1, b1]; exact puI_eq (by omega) (by omega) (by omega) (by omega)
  have q2 : w (1 + 5 * i + 2) = w (1 + 5 * j + 2) ↔ (G i).2.2.1 = (G j).2.2.1 := by
    rw [a2, b2]; exact puI_eq (by omega) (by omega) (by omega) (by omega)
  have q3 : w (1 + 5 * i + 3) = w (1 + 5 * j + 3) ↔ (G i).2.2.2.1 = (G j).2.2.2.1 := by
    rw [a3, b3]; exact puI_eq (by omega) (by omega) (by omega) (by omega)
  constructor
  · intro h
    exact ⟨q0.mp (h 0 (by decide)), q1.mp (h 1 (by decide)), q2.mp (h 2 (by decide)), q3.mp (h 3 (by decide))⟩
  · rintro ⟨h0, h1, h2, h3⟩ c hc
    rcases (show c = 0 ∨ c = 1 ∨ c = 2 ∨ c = 3 by omega) with e | e | e | e <;> subst e
    · exact q0.mpr h0
    · exact q1.mpr h1
    · exact q2.mpr h2
    · exact q3.mpr h3
theorem p_same {lx ly rx ry : Nat → Int32} {s s2 : Nat} {q q2 : puS} (h : puQ lx ly rx ry s q) (h' : puQ lx ly rx ry s2 q2) (v : puV q) (v2 : puV q2) (hs : s < 24) (hs2 : s2 < 24) : fX7_isSame lx ly rx ry (puI (s : Int)) (puI (s2 : Int)) = some (puB (puSame q q2)) := p_isSame h h' v v2 hs hs2
noncomputable def puHow (a b : puS) : Int32 := puE (puSame a b) 4 (puE (puKd a b = 2) 3 (puE (puKd a b = 0) 0 (puE (puMp a b = puA a ∨ puMp a b = puZ a) 1 (puE (puMp a b = puA b ∨ puMp a b = puZ b) 1 2))))
theorem p_howOf {n : Nat} {G : puG} {w one two sh : Nat → Int32} {x y d : Int64} (hv : puVal n G) (hw : puMW n G w) {i j : Nat} (hi : i < n) (hj : j < n) : puOk (fX11_howOf w one two sh x y d (puI (i : Int)) (puI (j : Int))) (fun o => o.1 = puHow (G i) (G j)) := by
  have hn := hv.1
  unfold fX11_howOf
  rw [p_hsame hv hw hi hj, xsBd_sm]
  unfold fX11_howOf_J44
  obtain ⟨r, er, r1, r2, r3⟩ := p_sharesOf hv hw hi hj (one := one) (two := two) (sh := sh) (x := x) (y := y) (d := d)
  simp only at r1 r2 r3
  have le := puKd_le (G i) (G j)
  rw [xsBd_some er, r1]
  unfold puHow
  by_cases c : puSame (G i) (G j)
  · rw [xsBr_neg (by rw [puB_pos c]; decide), puE_pos c]
    exact puOk_some rfl
  · rw [xsBr_pos (puB_neg c), puE_neg c]
    rcases (show puKd (G i) (G j) = 0 ∨ puKd (G i) (G j) = 1 ∨ puKd (G i) (G j) = 2 by omega) with e | e | e
    · rw [e, xsBr_neg (by decide), xsBr_neg (by decide), puE_neg (by decide), puE_pos rfl]
      exact puOk_some rfl
    · rw [e, xsBr_pos (by decide), puE_neg (by decide), puE_neg (by decide), p_isEndOf hv hw hi (r2 e), xsBd_sm]
      by_cases c1 : puMp (G i) (G j) = puA (G i) ∨ puMp (G i) (G j) = puZ (G i)
      · rw [xsBr_neg (by rw [puB_pos c1]; decide), puE_pos c1]
        exact puOk_some rfl
      · rw [xsBr_pos (puB_neg c1), puE_neg c1, p_isEndOf hv hw hj (r2 e), xsBd_sm]
        by_cases c2 : puMp (G i) (G j) = puA (G j) ∨ puMp (G i) (G j) = puZ (G j)
        · rw [xsBr_neg (by rw [puB_pos c2]; decide), puE_pos c2]
          exact puOk_some rfl
        · rw [xsBr_pos (puB_neg c2), puE_neg c2]
          exact puOk_some rfl
    · rw [e, xsBr_neg (by decide), xsBr_pos (by decide), puE_pos rfl]
      exact puOk_some rfl
theorem q_how : pc_how puRl := by
  intro kIsKept kIsStale hiLatest hiSize scLength scFault scAt scNumber piSegmentsNow enKind enFromX enFromY enToX enToY tiMeetingPairs tiAlongPairs tiSize evSize evCrossings evSegmentsNow grEdges grQueued huSize huBestX huBestY scBytes scTold tiTouching tiLyingAlong evBundle evCrossingOf evEventOf evLeftEvent evRightEvent grDegree grFar grQueue huX huY enX enY enLower evX evY evLower S mThrown mRemembered mHasImage mIsLaid mEvents mCrossings mEdges mTaped mPoint mEnd mBegin mFaultAt mActs mWorld mImage mDraft mEarlier mOne mTwo mShare mCrossingOf mBundle mEventOf mDegree mFrom mTo mMet mTape mFive mTold mFar mViews mHullX mHullY mEndX mEndY mMeets mMeetsOf mX mY mD mHeightUp mHeightLow mEventX mEventY mEventD mUpper mLower hR a0 a1
  obtain ⟨n, G, rw, ri, rh, rt, rk, rm⟩ := hR
  obtain ⟨i, rfl, i1, i2⟩ := puI_ex a0
  obtain ⟨j, rfl, j1, j2⟩ := puI_ex a1
  obtain ⟨w1, w2, w3⟩ := id rw
  have hn := w1.1
  unfold fX10_how fX11_how
  rw [w2.2.2, p_seg i1 i2 (by omega), p_seg j1 j2 (by omega), p_noTwo hn w3 i1 i2 j1 j2]
  simp only [xsBd_sm]
  by_cases c1 : puXi n i
  case neg =>
    rw [puCk_neg c1, puB_pos (fun q => c1 q.1), puE_pos (fun q => c1 q.1)]
    simp only [xsTh]
    rw [xsBr_neg (by decide)]
    exact ⟨_, _, rfl, rfl, Or.inr ⟨_, _, rfl, Or.inl rfl, rfl, n, G, rw, ri, rh, rt, rk, rm⟩⟩
  rw [puCk_pos c1]
  simp only [xsTh]
  by_cases c2 : puXi n j
  case neg =>
    rw [puCk_neg c2, puB_pos (fun q => c2 q.2), puE_pos (fun q => c2 q.2)]
    simp only [xsTh]
    rw [xsBr_neg (by decide)]
    exact ⟨_, _, rfl, rfl, Or.inr ⟨_, _, rfl, Or.inl rfl, rfl, n, G, rw, ri, rh, rt, rk, rm⟩⟩
  rw [puCk_pos c2, puB_neg (fun q => q ⟨c1, c2⟩), puE_neg (fun q => q ⟨c1, c2⟩)]
  simp only [xsTh]
  rw [xsBr_T]
  rw [p_checkTwo i1 i2 j1 j2, xsBr_iff (puI_eq i1 i2 j1 j2), xsBr_10]
  simp only [xsBd_sm]
  unfold fX11_how_J20
  rw [p_throwsIf, xsBd_sm]
  by_cases c3 : i = j
  case pos =>
    rw [puCk_neg (fun q => q c3), puB_pos c3, puE_pos c3]
    simp only [xsTh]
    rw [xsBr_neg (by decide)]
    exact ⟨_, _, rfl, rfl, Or.inr ⟨_, _, rfl, Or.inr rfl, rfl, n, G, rw, ri, rh, rt, rk, rm⟩⟩
  rw [puCk_pos c3, puB_neg c3, puE_neg c3]
  simp only [xsTh]
  rw [xsBr_T]
  obtain ⟨i', rfl, hi⟩ : ∃ i' : Nat, i = (i' : Int) ∧ i' < n := ⟨i.toNat, by unfold puXi at c1; omega, by unfold puXi at c1; omega⟩
  obtain ⟨j', rfl, hj⟩ : ∃ j' : Nat, j = (j' : Int) ∧ j' < n := ⟨j.toNat, by unfold puXi at c2; omega, by unfold puXi at c2; omega⟩
  obtain ⟨r, er, hr⟩ := p_howOf w1 w3 hi hj (one := mOne) (two := mTwo) (sh := mShare) (x := mX) (y := mY) (d := mD)
  obtain ⟨u, eu, u1, u2, u3, u4⟩ := p_enc w1 w2.1 hi hj (k0 := enKind) (x0 := enX) (y0 := enY) (l0 := enLower) (c0 := enFromX) (c1 := enFromY) (c2 := enToX) (c3 := enToY)
  rw [xsBd_some er, p_same (w2.1 i' hi) (w2.1 j' hj) (w1.2 i' hi) (w1.2 j' hj) (by omega) (by omega), xsBd_sm]
  unfold puHow at hr
  by_cases c : puSame (G i') (G j')
  · rw [puE_pos c] at hr
    rw [xsBr_neg (by rw [puB_pos c]; decide)]
    exact ⟨_, _, rfl, rfl, Or.inl ⟨_, rfl, hr.symm, rfl, n, G, rw, ri, rh, rt, rk, rm⟩⟩
  rw [puE_neg c] at hr
  rw [xsBr_pos (puB_neg c), xsBd_some eu, u1]
  have le := puKd_le (G i') (G j')
  rcases (show puKd (G i') (G j') = 0 ∨ puKd (G i') (G j') = 1 ∨ puKd (G i') (G j') = 2 by omega) with e | e | e
  · rw [e, puE_neg (by decide), puE_pos rfl] at hr
    rw [e, xsBr_neg (by decide), xsBr_pos (by decide)]
    exact ⟨_, _, rfl, rfl, Or.inl ⟨_, rfl, hr.symm, rfl, n, G, rw, ri, rh, rt, rk, rm⟩⟩
  · rw [e, puE_neg (by decide), puE_neg (by decide)] at hr
    rw [e, xsBr_neg (by decide), xsBr_neg (by decide), p_isAtEnd (w2.1 i' hi) (w1.2 i' hi) (by omega) (u2 e), xsBd_sm]
    by_cases d1 : puMp (G i') (G j') = puA (G i') ∨ puMp (G i') (G j') = puZ (G i')
    · rw [puE_pos d1] at hr
      rw [xsBr_neg (by rw [puB_pos d1]; decide)]
      exact ⟨_, _, rfl, rfl, Or.inl ⟨_, rfl, hr.symm, rfl, n, G, rw, ri, rh, rt, rk, rm⟩⟩
    rw [puE_neg d1] at hr
    rw [xsBr_pos (puB_neg d1), p_isAtEnd (w2.1 j' hj) (w1.2 j' hj) (by omega) (u2 e), xsBd_sm]
    by_cases d2 : puMp (G i') (G j') = puA (G j') ∨ puMp (G i') (G j') = puZ (G j')
    · rw [puE_pos d2] at hr
      rw [xsBr_neg (by rw [puB_pos d2]; decide)]
      exact ⟨_, _, rfl, rfl, Or.inl ⟨_, rfl, hr.symm, rfl, n, G, rw, ri, rh, rt, rk, rm⟩⟩
    rw [puE_neg d2] at hr
    rw [xsBr_pos (puB_neg d2)]
    exact ⟨_, _, rfl, rfl, Or.inl ⟨_, rfl, hr.symm, rfl, n, G, rw, ri, rh, rt, rk, rm⟩⟩
  · rw [e, puE_pos rfl] at hr
    rw [e, xsBr_pos (by decide)]
    exact ⟨_, _, rfl, rfl, Or.inl ⟨_, rfl, hr.symm, rfl, n, G, rw, ri, rh, rt, rk, rm⟩⟩

theorem q_meet : pc_meet puRl := by
  intro kIsKept kIsStale hiLatest hiSize scLength scFault scAt scNumber piSegmentsNow enKind enFromX enFromY enToX enToY tiMeetingPairs tiAlongPairs tiSize evSize evCrossings evSegmentsNow grEdges grQueued huSize huBestX huBestY scBytes scTold tiTouching tiLyingAlong evBundle evCrossingOf evEventOf evLeftEvent evRightEvent grDegree grFar grQueue huX huY enX enY enLower evX evY evLower S mThrown mRemembered mHasImage mIsLaid mEvents mCrossings mEdges mTaped mPoint mEnd mBegin mFaultAt mActs mWorld mImage mDraft mEarlier mOne mTwo mShare mCrossingOf mBundle mEventOf mDegree mFrom mTo mMet mTape mFive mTold mFar mViews mHullX mHullY mEndX mEndY mMeets mMeetsOf mX mY mD mHeightUp mHeightLow mEventX mEventY mEventD mUpper mLower hR a0 a1 a2
  obtain ⟨n, G, rw, ri, rh, rt, rk, rm⟩ := hR
  obtain ⟨k, rfl, k1, k2⟩ := puI_ex a2
  obtain ⟨i, rfl, i1, i2⟩ := puI_ex a0
  obtain ⟨j, rfl, j1, j2⟩ := puI_ex a1
  obtain ⟨w1, w2, w3⟩ := id rw
  have hn := w1.1
  unfold fX10_meet fX11_meet
  rw [w2.2.2, p_seg i1 i2 (by omega), p_seg j1 j2 (by omega), p_noTwo hn w3 i1 i2 j1 j2]
  simp only [xsBd_sm]
  by_cases c1 : puXi n i
  case neg =>
    rw [puCk_neg c1, puB_pos (fun q => c1 q.1), puE_pos (fun q => c1 q.1)]
    simp only [xsTh]
    rw [xsBr_neg (by decide)]
    exact ⟨_, _, rfl, rfl, Or.inr ⟨_, _, rfl, Or.inl rfl, rfl, n, G, rw, ri, rh, rt, rk, rm⟩⟩
  rw [puCk_pos c1]
  simp only [xsTh]
  by_cases c2 : puXi n j
  case neg =>
    rw [puCk_neg c2, puB_pos (fun q => c2 q.2), puE_pos (fun q => c2 q.2)]
    simp only [xsTh]
    rw [xsBr_neg (by decide)]
    exact ⟨_, _, rfl, rfl, Or.inr ⟨_, _, rfl, Or.inl rfl, rfl, n, G, rw, ri, rh, rt, rk, rm⟩⟩
  rw [puCk_pos c2, puB_neg (fun q => q ⟨c1, c2⟩), puE_neg (fun q => q ⟨c1, c2⟩)]
  simp only [xsTh]
  rw [xsBr_T]
  rw [show (3 : Int32) = puI 3 by rfl, p_checkQuestion k1 k2 (by omega), puI_l k1 k2, show (0 : Int64) = puJ 0 by rfl, show (3 : Int64) = puJ 3 by rfl, p_in (by omega) (by omega) (by omega)]
  simp only [xsBd_sm, xsBr_10]
  unfold fX11_meet_J27
  rw [p_throwsIf, xsBd_sm]
  by_cases c3 : 0 ≤ k ∧ k ≤ 3
  case neg =>
    rw [puCk_neg c3, puB_pos (puB_0.mpr c3), puE_pos (puB_0.mpr c3)]
    simp only [xsTh]
    rw [xsBr_neg (by decide)]
    exact ⟨_, _, rfl, rfl, Or.inr ⟨_, _, rfl, Or.inr (Or.inl rfl), rfl, n, G, rw, ri, rh, rt, rk, rm⟩⟩
  have c3' : ¬ puB (0 ≤ k ∧ k ≤ 3) = 0 := puB_n0.mpr c3
  rw [puCk_pos c3, puB_neg c3', puE_neg c3']
  simp only [xsTh]
  rw [xsBr_T, p_checkTwo i1 i2 j1 j2, xsBr_iff (puI_eq i1 i2 j1 j2), xsBr_10]
  simp only [xsBd_sm]
  unfold fX11_meet_J45
  rw [p_throwsIf, xsBd_sm]
  by_cases c4 : i = j
  case pos =>
    rw [puCk_neg (fun q => q c4), puB_pos c4, puE_pos c4]
    simp only [xsTh]
    rw [xsBr_neg (by decide)]
    exact ⟨_, _, rfl, rfl, Or.inr ⟨_, _, rfl, Or.inr (Or.inr (Or.inl rfl)), rfl, n, G, rw, ri, rh, rt, rk, rm⟩⟩
  rw [puCk_pos c4, puB_neg c4, puE_neg c4]
  simp only [xsTh]
  rw [xsBr_T]
  obtain ⟨i', rfl, hi⟩ : ∃ i' : Nat, i = (i' : Int) ∧ i' < n := ⟨i.toNat, by unfold puXi at c1; omega, by unfold puXi at c1; omega⟩
  obtain ⟨j', rfl, hj⟩ : ∃ j' : Nat, j = (j' : Int) ∧ j' < n := ⟨j.toNat, by unfold puXi at c2; omega, by unfold puXi at c2; omega⟩
  obtain ⟨r, er, r1, r2, r3⟩ := p_sharesOf w1 w3 hi hj (one := mOne) (two := mTwo) (sh := mShare) (x := mX) (y := mY) (d := mD)
  obtain ⟨u, eu, u1, u2, u3, u4⟩ := p_enc w1 w2.1 hi hj (k0 := enKind) (x0 := enX) (y0 := enY) (l0 := enLower) (c0 := enFromX) (c1 := enFromY) (c2 := enToX) (c3 := enToY)
  simp only at r1 r2 r3
  have le := puKd_le (G i') (G j')
  have ek : ((puI (puKd (G i') (G j') : Int)) = (1 : Int32)) ↔ puKd (G i') (G j') = 1 := by
    rw [show (1 : Int32) = puI ((1 : Nat) : Int) by rfl, puI_eq (by omega) (by omega) (by omega) (by omega)]; omega
  rw [xsBd_some er, xsBd_some eu, u1, r1, xsBr_iff ek, xsBr_iff ek, xsBr_01, xsBd_sm]
  unfold fX11_meet_J70
  rw [p_throwsIf, xsBd_sm]
  by_cases e : puKd (G i') (G j') = 1
  case neg =>
    rw [xsBr_neg e, puB_pos e, puE_pos e]
    simp only
    rw [xsBr_neg (by decide)]
    exact ⟨_, _, rfl, rfl, Or.inr ⟨_, _, rfl, Or.inr (Or.inr (Or.inr rfl)), rfl, n, G, rw, ri, rh, rt, rk, rm⟩⟩
  have e' : ¬ ¬ puKd (G i') (G j') = 1 := fun q => q e
  rw [xsBr_pos e, puB_neg e', puE_neg e']
  simp only
  rw [xsBr_T]
  rw [p_part (u2 e) (by omega), p_mpart (r2 e) (by omega), xsBd_sm, xsBd_sm]
  exact ⟨_, _, rfl, rfl, Or.inl ⟨_, rfl, rfl, rfl, n, G, rw, ri, rh, rt, rk, rm⟩⟩

theorem q_along : pc_along puRl := by
  intro kIsKept kIsStale hiLatest hiSize scLength scFault scAt scNumber piSegmentsNow enKind enFromX enFromY enToX enToY tiMeetingPairs tiAlongPairs tiSize evSize evCrossings evSegmentsNow grEdges grQueued huSize huBestX huBestY scBytes scTold tiTouching tiLyingAlong evBundle evCrossingOf evEventOf evLeftEvent evRightEvent grDegree grFar grQueue huX huY enX enY enLower evX evY evLower S mThrown mRemembered mHasImage mIsLaid mEvents mCrossings mEdges mTaped mPoint mEnd mBegin mFaultAt mActs mWorld mImage mDraft mEarlier mOne mTwo mShare mCrossingOf mBundle mEventOf mDegree mFrom mTo mMet mTape mFive mTold mFar mViews mHullX mHullY mEndX mEndY mMeets mMeetsOf mX mY mD mHeightUp mHeightLow mEventX mEventY mEventD mUpper mLower hR a0 a1 a2
  obtain ⟨n, G, rw, ri, rh, rt, rk, rm⟩ := hR
  obtain ⟨k, rfl, k1, k2⟩ := puI_ex a2
  obtain ⟨i, rfl, i1, i2⟩ := puI_ex a0
  obtain ⟨j, rfl, j1, j2⟩ := puI_ex a1
  obtain ⟨w1, w2, w3⟩ := id rw
  have hn := w1.1
  unfold fX10_along fX11_along
  rw [w2.2.2, p_seg i1 i2 (by omega), p_seg j1 j2 (by omega), p_noTwo hn w3 i1 i2 j1 j2]
  simp only [xsBd_sm]
  by_cases c1 : puXi n i
  case neg =>
    rw [puCk_neg c1, puB_pos (fun q => c1 q.1), puE_pos (fun q => c1 q.1)]
    simp only [xsTh]
    rw [xsBr_neg (by decide)]
    exact ⟨_, _, rfl, rfl, Or.inr ⟨_, _, rfl, Or.inl rfl, rfl, n, G, rw, ri, rh, rt, rk, rm⟩⟩
  rw [puCk_pos c1]
  simp only [xsTh]
  by_cases c2 : puXi n j
  case neg =>
    rw [puCk_neg c2, puB_pos (fun q => c2 q.2), puE_pos (fun q => c2 q.2)]
    simp only [xsTh]
    rw [xsBr_neg (by decide)]
    exact ⟨_, _, rfl, rfl, Or.inr ⟨_, _, rfl, Or.inl rfl, rfl, n, G, rw, ri, rh, rt, rk, rm⟩⟩
  rw [puCk_pos c2, puB_neg (fun q => q ⟨c1, c2⟩), puE_neg (fun q => q ⟨c1, c2⟩)]
  simp only [xsTh]
  rw [xsBr_T]
  rw [show (3 : Int32) = puI 3 by rfl, p_checkQuestion k1 k2 (by omega), puI_l k1 k2, show (0 : Int64) = puJ 0 by rfl, show (3 : Int64) = puJ 3 by rfl, p_in (by omega) (by omega) (by omega)]
  simp only [xsBd_sm, xsBr_10]
  unfold fX11_along_J27
  rw [p_throwsIf, xsBd_sm]
  by_cases c3 : 0 ≤ k ∧ k ≤ 3
  case neg =>
    rw [puCk_neg c3, puB_pos (puB_0.mpr c3), puE_pos (puB_0.mpr c3)]
    simp only [xsTh]
    rw [xsBr_neg (by decide)]
    exact ⟨_, _, rfl, rfl, Or.inr ⟨_, _, rfl, Or.inr (Or.inl rfl), rfl, n, G, rw, ri, rh, rt, rk, rm⟩⟩
  have c3' : ¬ puB (0 ≤ k ∧ k ≤ 3) = 0 := puB_n0.mpr c3
  rw [puCk_pos c3, puB_neg c3', puE_neg c3']
  simp only [xsTh]
  rw [xsBr_T, p_checkTwo i1 i2 j1 j2, xsBr_iff (puI_eq i1 i2 j1 j2), xsBr_10]
  simp only [xsBd_sm]
  unfold fX11_along_J45
  rw [p_throwsIf, xsBd_sm]
  by_cases c4 : i = j
  case pos =>
    rw [puCk_neg (fun q => q c4), puB_pos c4, puE_pos c4]
    simp only [xsTh]
    rw [xsBr_neg (by decide)]
    exact ⟨_, _, rfl, rfl, Or.inr ⟨_, _, rfl, Or.inr (Or.inr (Or.inl rfl)), rfl, n, G, rw, ri, rh, rt, rk, rm⟩⟩
  rw [puCk_pos c4, puB_neg c4, puE_neg c4]
  simp only [xsTh]
  rw [xsBr_T]
  obtain ⟨i', rfl, hi⟩ : ∃ i' : Nat, i = (i' : Int) ∧ i' < n := ⟨i.toNat, by unfold puXi at c1; omega, by unfold puXi at c1; omega⟩
  obtain ⟨j', rfl, hj⟩ : ∃ j' : Nat, j = (j' : Int) ∧ j' < n := ⟨j.toNat, by unfold puXi at c2; omega, by unfold puXi at c2; omega⟩
  obtain ⟨r, er, r1, r2, r3⟩ := p_sharesOf w1 w3 hi hj (one := mOne) (two := mTwo) (sh := mShare) (x := mX) (y := mY) (d := mD)
  obtain ⟨u, eu, u1, u2, u3, u4⟩ := p_enc w1 w2.1 hi hj (k0 := enKind) (x0 := enX) (y0 := enY) (l0 := enLower) (c0 := enFromX) (c1 := enFromY) (c2 := enToX) (c3 := enToY)
  simp only at r1 r2 r3
  have le := puKd_le (G i') (G j')
  have ek : ((puI (puKd (G i') (G j') : Int)) = (2 : Int32)) ↔ puKd (G i') (G j') = 2 := by
    rw [show (2 : Int32) = puI ((2 : Nat) : Int) by rfl, puI_eq (by omega) (by omega) (by omega) (by omega)]; omega
  rw [xsBd_some er, xsBd_some eu, u1, r1, xsBr_iff ek, xsBr_iff ek, xsBr_01, xsBd_sm]
  unfold fX11_along_J70
  rw [p_throwsIf, xsBd_sm]
  by_cases e : puKd (G i') (G j') = 2
  case neg =>
    rw [xsBr_neg e, puB_pos e, puE_pos e]
    simp only
    rw [xsBr_neg (by decide)]
    exact ⟨_, _, rfl, rfl, Or.inr ⟨_, _, rfl, Or.inr (Or.inr (Or.inr rfl)), rfl, n, G, rw, ri, rh, rt, rk, rm⟩⟩
  have e' : ¬ ¬ puKd (G i') (G j') = 2 := fun q => q e
  rw [xsBr_pos e, puB_neg e', puE_neg e']
  simp only
  rw [xsBr_T]
  obtain ⟨s0, s1, s2, s3⟩ := r3 e
  obtain ⟨-, -, -, v0, v1, v2, v3⟩ := u3 (puKd_2 (w1.2 i' hi) (w1.2 j' hj) e).1
  rcases (show k = 0 ∨ k = 1 ∨ k = 2 ∨ k = 3 by omega) with q | q | q | q <;> subst q
  · rw [xsBr_pos (by rfl), xsCk_in (by omega) (by omega) (by omega)]
    exact ⟨_, _, rfl, rfl, Or.inl ⟨_, rfl, v0.trans s0.symm, rfl, n, G, rw, ri, rh, rt, rk, rm⟩⟩
  · rw [xsBr_neg (by decide), xsBr_pos (by rfl), xsCk_in (by omega) (by omega) (by omega)]
    exact ⟨_, _, rfl, rfl, Or.inl ⟨_, rfl, v1.trans s1.symm, rfl, n, G, rw, ri, rh, rt, rk, rm⟩⟩
  · rw [xsBr_neg (by decide), xsBr_neg (by decide), xsBr_pos (by rfl), xsCk_in (by omega) (by omega) (by omega)]
    exact ⟨_, _, rfl, rfl, Or.inl ⟨_, rfl, v2.trans s2.symm, rfl, n, G, rw, ri, rh, rt, rk, rm⟩⟩
  · rw [xsBr_neg (by decide), xsBr_neg (by decide), xsBr_neg (by decide), xsCk_in (by omega) (by omega) (by omega)]
    exact ⟨_, _, rfl, rfl, Or.inl ⟨_, rfl, v3.trans s3.symm, rfl, n, G, rw, ri, rh, rt, rk, rm⟩⟩

