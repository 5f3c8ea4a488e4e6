/-! PURE: FEED -/
/-- a byte of an Int -/
def fe_b (a : Int32) (j : Nat) : Int32 := ((a >>> (puI (24 - 8 * (j : Int)) &&& 31)).toInt8.toInt32).toInt8.toInt32
theorem p_push {by0 : Nat → Int32} {L : Nat} {a : Int32} (hL : L + 4 ≤ 400) : puOk (fX6_push by0 (puI (L : Int)) a) (fun o => o.2 = puI ((L + 4 : Nat) : Int) ∧ (∀ i, i < L → o.1 i = by0 i) ∧ ∀ j, j < 4 → o.1 (L + j) = fe_b a j) := by
  unfold fX6_push
  have key : puOk (xsWh (fun s4 => fX6_push_L3 a s4.1 s4.2.1 s4.2.2) ((24 : Int32), by0, puI (L : Int))) (fun o => o.2 = puI ((L + 4 : Nat) : Int) ∧ (∀ i, i < L → o.1 i = by0 i) ∧ ∀ j, j < 4 → o.1 (L + j) = fe_b a j) := by
    refine puFor1 4 (fun m z => z.1 = puI (24 - 8 * (m : Int)) ∧ z.2.2 = puI ((L + m : Nat) : Int) ∧ (∀ i, i < L → z.2.1 i = by0 i) ∧ ∀ j, j < m → z.2.1 (L + j) = fe_b a j) _ ⟨rfl, rfl, fun i _ => rfl, fun j hj => absurd hj (Nat.not_lt_zero _)⟩ ?_ ?_
    · rintro m ⟨y1, y2, y3⟩ hm ⟨q1, q2, q3, q4⟩
      simp only at q1 q2 q3 q4
      subst q1
      subst q2
      simp only [fX6_push_L3]
      rw [xsBr_neg (by rw [show (0 : Int32) = puI 0 by rfl, puI_lt (by omega) (by omega) (by omega) (by omega)]; omega), xsBr_neg (by rw [show (400 : Int32) = puI ((400 : Nat) : Int) by rfl, puI_leN (by omega) (by omega)]; omega), xsCk_in (by omega) (by omega) (by omega), xsLt_eq, xsLt_eq, xsBd_sm]
      simp only [fX6_push_J40]
      rw [xsLt_eq, puI_clN (by omega), puI_s1]
      refine ⟨_, rfl, ?_, rfl, fun i hi => ?_, fun j hj => ?_⟩
      · show puI (24 - 8 * (m : Int)) + (-8 : Int32) = _
        rw [show (-8 : Int32) = puI (-8) by rfl, puI_add]; congr 1; omega
      · dsimp only
        rw [puUpd_ne (by omega)]; exact q3 i hi
      · dsimp only
        by_cases z : j = m
        · subst z; rw [puUpd_eq]; rfl
        · rw [puUpd_ne (by omega)]; exact q4 j (by omega)
    · rintro ⟨y1, y2, y3⟩ ⟨q1, q2, q3, q4⟩
      simp only at q1 q2 q3 q4
      subst q1
      subst q2
      simp only [fX6_push_L3]
      rw [xsBr_pos (by decide)]
      exact ⟨_, rfl, rfl, q3, q4⟩
  obtain ⟨r, er, hr⟩ := key
  rw [xsBd_some er]
  exact puOk_some hr
theorem p_feedM {tp f : Nat → Int32} {L : Nat} (hL : L + 20 ≤ 400) : puOk (xsWh (fun s13 => fX11_feed_L60 (puI (L : Int)) f s13.1 s13.2) ((0 : Int32), tp)) (fun r => (∀ i, i < L → r i = tp i) ∧ ∀ j, j < 20 → r (L + j) = fe_b (f (j / 4)) (j % 4)) := by
  refine puFor1 20 (fun m z => z.1 = puI (m : Int) ∧ (∀ i, i < L → z.2 i = tp i) ∧ ∀ j, j < m → z.2 (L + j) = fe_b (f (j / 4)) (j % 4)) _ ⟨rfl, fun i _ => rfl, fun j hj => absurd hj (Nat.not_lt_zero _)⟩ ?_ ?_
  · rintro m ⟨y1, y2⟩ hm ⟨q1, q2, q3⟩
    simp only at q1 q2 q3
    subst q1
    simp only [fX11_feed_L60]
    have dv : puI (m : Int) / (4 : Int32) = puI ((m / 4 : Nat) : Int) := puI_div (b := 4) (by omega) (by omega)
    have ad : puI (L : Int) + puI (m : Int) = puI ((L + m : Nat) : Int) := by rw [puI_add]; rfl
    have rm : (24 : Int32) - (8 : Int32) * (puI (m : Int) - puI ((m / 4 : Nat) : Int) * (4 : Int32)) = puI (24 - 8 * ((m % 4 : Nat) : Int)) := by
      rw [show (24 : Int32) = puI 24 by rfl, show (8 : Int32) = puI 8 by rfl, show (4 : Int32) = puI 4 by rfl, puI_mul, puI_sub, puI_mul, puI_sub]
      congr 1; omega
    have nz : ¬ (4 : Int32) = 0 := by decide
    rw [xsBr_neg (by rw [show (20 : Int32) = puI ((20 : Nat) : Int) by rfl, puI_leN (by omega) (by omega)]; omega), xsCk_pos nz, xsCk_pos nz, dv, ad, xsCk_in (by omega) (by omega) (by omega), xsCk_in (by omega) (by omega) (by omega), xsLt_eq, xsLt_eq, puI_clN (by omega), puI_clN (by omega), rm, puI_s1]
    refine ⟨_, rfl, rfl, fun i hi => ?_, fun j hj => ?_⟩
    · dsimp only
      rw [puUpd_ne (by omega)]; exact q2 i hi
    · dsimp only
      by_cases z : j = m
      · subst z; rw [puUpd_eq]; rfl
      · rw [puUpd_ne (by omega)]; exact q3 j (by omega)
  · rintro ⟨y1, y2⟩ ⟨q1, q2, q3⟩
    simp only at q1 q2 q3
    subst q1
    simp only [fX11_feed_L60]
    rw [xsBr_pos (by decide)]
    exact ⟨_, rfl, q2, q3⟩
theorem q_feed : pc_feed puRl := by
  intro kIsKept kIsStale hiLatest hiSize scLength scFault scAt scNumber piSegmentsNow enKind enFromX enFromY enToX enToY tiMeetingPairs tiAlongPairs tiSize evSize evCrossings evSegmentsNow grEdges grQueued huSize huBestX huBestY scBytes scTold tiTouching tiLyingAlong evBundle evCrossingOf evEventOf evLeftEvent evRightEvent grDegree grFar grQueue huX huY enX enY enLower evX evY evLower S mThrown mRemembered mHasImage mIsLaid mEvents mCrossings mEdges mTaped mPoint mEnd mBegin mFaultAt mActs mWorld mImage mDraft mEarlier mOne mTwo mShare mCrossingOf mBundle mEventOf mDegree mFrom mTo mMet mTape mFive mTold mFar mViews mHullX mHullY mEndX mEndY mMeets mMeetsOf mX mY mD mHeightUp mHeightLow mEventX mEventY mEventD mUpper mLower hR a0 a1 a2 a3 a4
  obtain ⟨n, G, rw, ri, rh, rt, rk, rm⟩ := hR
  obtain ⟨L, hL, rfl, rfl, hb, hf⟩ := id rt
  unfold fX10_feed fX11_feed fX6_hasRoom
  have ad : puI (L : Int) + (20 : Int32) = puI ((L + 20 : Nat) : Int) := by rw [show (20 : Int32) = puI 20 by rfl, puI_add]; rfl
  rw [ad]
  by_cases c : 400 < L + 20
  · rw [xsBr_pos (show (400 : Int32) < puI ((L + 20 : Nat) : Int) by rw [show (400 : Int32) = puI ((400 : Nat) : Int) by rfl, puI_ltN (by omega) (by omega)]; exact c), xsBd_sm, xsBr_pos rfl, xsBr_neg (show ¬ puI ((L + 20 : Nat) : Int) ≤ (400 : Int32) by rw [show (400 : Int32) = puI ((400 : Nat) : Int) by rfl, puI_leN (by omega) (by omega)]; omega)]
    exact ⟨_, _, rfl, rfl, rfl, n, G, rw, ri, rh, rt, rk, rm⟩
  rw [xsBr_neg (show ¬ (400 : Int32) < puI ((L + 20 : Nat) : Int) by rw [show (400 : Int32) = puI ((400 : Nat) : Int) by rfl, puI_ltN (by omega) (by omega)]; exact c), xsBd_sm, xsBr_neg (show ¬ (1 : Int32) = 0 by decide), xsBr_pos (show puI ((L + 20 : Nat) : Int) ≤ (400 : Int32) by rw [show (400 : Int32) = puI ((400 : Nat) : Int) by rfl, puI_leN (by omega) (by omega)]; omega)]
  obtain ⟨o1, e1, l1, k1, b1⟩ := p_push (by0 := scBytes) (L := L) (a := a0) (by omega)
  obtain ⟨o2, e2, l2, k2, b2⟩ := p_push (by0 := o1.1) (L := L + 4) (a := a1) (by omega)
  obtain ⟨o3, e3, l3, k3, b3⟩ := p_push (by0 := o2.1) (L := L + 4 + 4) (a := a2) (by omega)
  obtain ⟨o4, e4, l4, k4, b4⟩ := p_push (by0 := o3.1) (L := L + 4 + 4 + 4) (a := a3) (by omega)
  obtain ⟨o5, e5, l5, k5, b5⟩ := p_push (by0 := o4.1) (L := L + 4 + 4 + 4 + 4) (a := a4) (by omega)
  rw [← l1] at e2
  rw [← l2] at e3
  rw [← l3] at e4
  rw [← l4] at e5
  rw [xsBd_some e1, xsBd_some e2, xsBd_some e3, xsBd_some e4, xsBd_some e5]
  have ck : ∀ {α : Type} (z : Nat) (o : Option α), z < 5 → xsCk (vp_in (puI (z : Int)) 5) o = o := fun z o hz => xsCk_in (by omega) (by omega) (by omega)
  rw [show (0 : Int32) = puI ((0 : Nat) : Int) by rfl, show (1 : Int32) = puI ((1 : Nat) : Int) by rfl, show (2 : Int32) = puI ((2 : Nat) : Int) by rfl, show (3 : Int32) = puI ((3 : Nat) : Int) by rfl, show (4 : Int32) = puI ((4 : Nat) : Int) by rfl]
  simp only [ck 0 _ (by omega), ck 1 _ (by omega), ck 2 _ (by omega), ck 3 _ (by omega), ck 4 _ (by omega), xsLt_eq, puI_clN (show 0 < 2147483648 by omega), puI_clN (show 1 < 2147483648 by omega), puI_clN (show 2 < 2147483648 by omega), puI_clN (show 3 < 2147483648 by omega), puI_clN (show 4 < 2147483648 by omega)]
  obtain ⟨r, er, hr, hr2⟩ := p_feedM (tp := mTape) (f := upd (upd (upd (upd (upd mFive 0 a0) 1 a1) 2 a2) 3 a3) 4 a4) (L := L) (by omega)
  rw [show puI ((0 : Nat) : Int) = (0 : Int32) by rfl, xsBd_some er]
  unfold fX11_feed_J106
  rw [xsLt_eq, ad]
  refine ⟨_, _, rfl, rfl, l5, n, G, rw, ri, rh, ⟨L + 20, by omega, l5, rfl, fun i hi => ?_, hf⟩, rk, rm⟩
  dsimp only
  by_cases c0 : i < L
  · rw [k5 i (by omega), k4 i (by omega), k3 i (by omega), k2 i (by omega), k1 i (by omega), hr i c0]; exact hb i c0
  obtain ⟨j, rfl⟩ : ∃ j, i = L + j := ⟨i - L, by omega⟩
  rw [hr2 j (by omega)]
  rcases (show j < 4 ∨ (∃ z, z < 4 ∧ j = 4 + z) ∨ (∃ z, z < 4 ∧ j = 8 + z) ∨ (∃ z, z < 4 ∧ j = 12 + z) ∨ (∃ z, z < 4 ∧ j = 16 + z) from by
    by_cases d1 : j < 4
    · exact Or.inl d1
    by_cases d2 : j < 8
    · exact Or.inr (Or.inl ⟨j - 4, by omega, by omega⟩)
    by_cases d3 : j < 12
    · exact Or.inr (Or.inr (Or.inl ⟨j - 8, by omega, by omega⟩))
    by_cases d4 : j < 16
    · exact Or.inr (Or.inr (Or.inr (Or.inl ⟨j - 12, by omega, by omega⟩)))
    · exact Or.inr (Or.inr (Or.inr (Or.inr ⟨j - 16, by omega, by omega⟩)))) with d | ⟨z, d, rfl⟩ | ⟨z, d, rfl⟩ | ⟨z, d, rfl⟩ | ⟨z, d, rfl⟩
  · rw [k5 _ (by omega), k4 _ (by omega), k3 _ (by omega), k2 _ (by omega), b1 j d, show j / 4 = 0 by omega, show j % 4 = j by omega]
    rfl
  · rw [k5 _ (by omega), k4 _ (by omega), k3 _ (by omega), show L + (4 + z) = L + 4 + z by omega, b2 z d, show (4 + z) / 4 = 1 by omega, show (4 + z) % 4 = z by omega]
    rfl
  · rw [k5 _ (by omega), k4 _ (by omega), show L + (8 + z) = L + 4 + 4 + z by omega, b3 z d, show (8 + z) / 4 = 2 by omega, show (8 + z) % 4 = z by omega]
    rfl
  · rw [k5 _ (by omega), show L + (12 + z) = L + 4 + 4 + 4 + z by omega, b4 z d, show (12 + z) / 4 = 3 by omega, show (12 + z) % 4 = z by omega]
    rfl
  · rw [show L + (16 + z) = L + 4 + 4 + 4 + 4 + z by omega, b5 z d, show (16 + z) / 4 = 4 by omega, show (16 + z) % 4 = z by omega]
    rfl

