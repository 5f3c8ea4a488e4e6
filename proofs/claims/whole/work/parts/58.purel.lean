/-! PURE: the relation of both worlds; what copies -/
def puKS (n : Nat) (G : puG) (v : xsV) : Prop := puKW n G v.1 v.2.1 v.2.2.1 v.2.2.2.1 ∧ (∀ s, s < n → v.2.2.2.2.1 s = puI (G s).2.2.2.2) ∧ v.2.2.2.2.2 = puI (n : Int)
def puRw (n : Nat) (G : puG) (v : xsV) (w : Nat → Int32) : Prop := puVal n G ∧ puKS n G v ∧ puMW n G w
def puRi (kk : Int32) (v : xsV) (hi : Int32) (im : Nat → Int32) : Prop := (kk = 0 ∧ hi = 0) ∨ (kk = 1 ∧ hi = 1 ∧ ∃ n G, puRw n G v im)
def puRh (la sz : Int32) (S : Nat → xsV) (rm : Int32) (ea : Nat → Int32) : Prop := ∃ h l : Nat, h ≤ 8 ∧ l < 8 ∧ la = puI (l : Int) ∧ sz = puI (h : Int) ∧ rm = puI (h : Int) ∧ ∀ i, i < h → ∃ n G, puRw n G (S (4 + (l + 8 - i) % 8)) (fun k => ea (121 * (h - 1 - i) + k))
def puRt (by0 : Nat → Int32) (len fa : Int32) (tp : Nat → Int32) (td fm : Int32) : Prop := ∃ L : Nat, L ≤ 400 ∧ len = puI (L : Int) ∧ td = puI (L : Int) ∧ (∀ i, i < L → by0 i = tp i) ∧ fa = fm
def puRm (n : Nat) (G : puG) (ld : Int32) (ex ey ed : Nat → Int64) (sz : Int32) (cr bu eo de fr to : Nat → Int32) (nc ne : Int32) : Prop := ld = 0 ∨ (ld = 1 ∧ puMLd n G ex ey ed sz cr bu eo de fr to nc ne)
/-- THE RELATION -/
def puRl : xsRel := fun kIsKept kIsStale hiLatest hiSize scBytes scTold scLength scFault scAt scNumber piSegmentsNow enKind enX enY enLower enFromX enFromY enToX enToY tiTouching tiLyingAlong tiMeetingPairs tiAlongPairs tiSize evX evY evLower evBundle evCrossingOf evEventOf evLeftEvent evRightEvent evSize evCrossings evSegmentsNow grDegree grEdges grFar grQueue grQueued huX huY huSize huBestX huBestY S mThrown mWorld mImage mDraft mEarlier mRemembered mHasImage mIsLaid mOne mTwo mShare mX mY mD mEventX mEventY mEventD mEvents mCrossingOf mBundle mEventOf mDegree mFrom mTo mCrossings mEdges mMet mUpper mLower mTape mTaped mPoint mEnd mBegin mFaultAt mFive mTold mActs mFar mViews mHullX mHullY mEndX mEndY mHeightUp mHeightLow mMeets mMeetsOf => ∃ (n : Nat) (G : puG), puRw n G (S 0) mWorld ∧ puRi kIsKept (S 1) mHasImage mImage ∧ puRh hiLatest hiSize S mRemembered mEarlier ∧ puRt scBytes scLength scFault mTape mTaped mFaultAt ∧ puKSt n G kIsStale piSegmentsNow tiTouching tiLyingAlong tiMeetingPairs tiAlongPairs tiSize evX evY evLower evBundle evCrossingOf evEventOf evLeftEvent evRightEvent evSize evCrossings evSegmentsNow grDegree grEdges ∧ puRm n G mIsLaid mEventX mEventY mEventD mEvents mCrossingOf mBundle mEventOf mDegree mFrom mTo mCrossings mEdges
theorem p_copyFrom {n : Nat} {G : puG} (hn : n ≤ 24) {lx ly rx ry ti : Nat → Int32} {sz : Int32} {v : xsV} (h : puKS n G v) : puOk (fX7_copyFrom lx ly rx ry ti sz v.1 v.2.1 v.2.2.1 v.2.2.2.1 v.2.2.2.2.1 v.2.2.2.2.2) (fun o => puKS n G o) := by
  obtain ⟨h1, h2, h3⟩ := h
  rw [h3]
  have key : puOk (xsWh (fun s7 => fX7_copyFrom_L2 v.1 v.2.1 v.2.2.1 v.2.2.2.1 v.2.2.2.2.1 (puI (n : Int)) s7.1 s7.2.1 s7.2.2.1 s7.2.2.2.1 s7.2.2.2.2.1 s7.2.2.2.2.2) ((0 : Int32), lx, ly, rx, ry, ti)) (fun r => puKW n G r.1 r.2.1 r.2.2.1 r.2.2.2.1 ∧ ∀ s, s < n → r.2.2.2.2 s = puI (G s).2.2.2.2) := by
    refine puFor1 n (fun k z => z.1 = puI (k : Int) ∧ puKW k G z.2.1 z.2.2.1 z.2.2.2.1 z.2.2.2.2.1 ∧ ∀ s, s < k → z.2.2.2.2.2 s = puI (G s).2.2.2.2) _ ⟨rfl, fun s hs => by omega, fun s hs => by omega⟩ ?_ ?_
    · rintro k ⟨i, a, b, c, d, e⟩ hk ⟨rfl, g1, g2⟩
      simp only at g1 g2
      simp only [fX7_copyFrom_L2]
      rw [xsBr_neg (by rw [puI_leN (by omega) (by omega)]; omega)]
      unfold fX7_copyOne_v1
      simp (disch := omega) only [xsCk_in, xsLt_eq, puI_clN, xsBd_sm]
      rw [puI_s1]
      obtain ⟨q1, q2, q3, q4⟩ := h1 k hk
      refine ⟨_, rfl, rfl, fun s hs => ?_, fun s hs => ?_⟩
      · by_cases c : s = k
        · subst c
          exact ⟨(puUpd_eq _ _ _).trans q1, (puUpd_eq _ _ _).trans q2, (puUpd_eq _ _ _).trans q3, (puUpd_eq _ _ _).trans q4⟩
        · obtain ⟨u1, u2, u3, u4⟩ := g1 s (by omega)
          exact ⟨(puUpd_ne c).trans u1, (puUpd_ne c).trans u2, (puUpd_ne c).trans u3, (puUpd_ne c).trans u4⟩
      · by_cases c : s = k
        · subst c; exact (puUpd_eq _ _ _).trans (h2 s hk)
        · exact (puUpd_ne c).trans (g2 s (by omega))
    · rintro ⟨i, a, b, c, d, e⟩ ⟨rfl, g1, g2⟩
      simp only [fX7_copyFrom_L2]
      rw [xsBr_pos (by rw [puI_leN (by omega) (by omega)]; omega)]
      exact ⟨_, rfl, g1, g2⟩
  obtain ⟨r, er, r1, r2⟩ := key
  unfold fX7_copyFrom
  rw [xsBd_some er]
  simp only [fX7_copyFrom_J23]
  exact puOk_some ⟨r1, r2, rfl⟩
theorem p_become {n : Nat} {G : puG} (hn : n ≤ 24) {st : Int32} {lx ly rx ry ti : Nat → Int32} {sz : Int32} {v : xsV} (h : puKS n G v) : puOk (fX10_become st v.1 v.2.1 v.2.2.1 v.2.2.2.1 v.2.2.2.2.1 v.2.2.2.2.2 lx ly rx ry ti sz) (fun o => o.1 = 1 ∧ puKS n G o.2) := by
  unfold fX10_become
  exact puOk_bd (p_copyFrom hn h) (fun o ho => puOk_some ⟨rfl, ho⟩)
/-- a block copied -/
def puCpy (f g o : Nat → Int32) (a c : Nat) : Prop := ∀ j, o j = if c ≤ j ∧ j < c + 121 then f (a + (j - c)) else g j
theorem puMW_cpy {n : Nat} {G : puG} (hn : n ≤ 24) {f g o : Nat → Int32} {a c : Nat} (h : puCpy f g o a c) (hf : puMW n G (fun k => f (a + k))) : puMW n G (fun k => o (c + k)) := by
  have e : ∀ k, k < 121 → o (c + k) = f (a + k) := fun k hk => by rw [h, if_pos ⟨by omega, by omega⟩, show c + k - c = k by omega]
  refine ⟨(e 0 (by omega)).trans hf.1, fun s hs => ?_⟩
  obtain ⟨q0, q1, q2, q3, q4⟩ := hf.2 s hs
  exact ⟨(e _ (by omega)).trans q0, (e _ (by omega)).trans q1, (e _ (by omega)).trans q2, (e _ (by omega)).trans q3, (e _ (by omega)).trans q4⟩
theorem puMW_out {n : Nat} {G : puG} (hn : n ≤ 24) {f g o : Nat → Int32} {a c b : Nat} (h : puCpy f g o a c) (hb : b + 121 ≤ c ∨ c + 121 ≤ b) (hf : puMW n G (fun k => g (b + k))) : puMW n G (fun k => o (b + k)) := by
  have e : ∀ k, k < 121 → o (b + k) = g (b + k) := fun k hk => by rw [h, if_neg (by omega)]
  refine ⟨(e 0 (by omega)).trans hf.1, fun s hs => ?_⟩
  obtain ⟨q0, q1, q2, q3, q4⟩ := hf.2 s hs
  exact ⟨(e _ (by omega)).trans q0, (e _ (by omega)).trans q1, (e _ (by omega)).trans q2, (e _ (by omega)).trans q3, (e _ (by omega)).trans q4⟩
theorem puMW_0 {n : Nat} {G : puG} {f : Nat → Int32} : puMW n G (fun k => f (0 + k)) ↔ puMW n G f := by
  simp only [Nat.zero_add]
theorem p_copies {g : Nat → Int32} {a c : Nat} (ha : a + 121 ≤ 968) (hc : c + 121 ≤ 968) (hac : c + 121 ≤ a) : puOk (fX11_copies g (puI (a : Int)) (puI (c : Int))) (fun o => puCpy g g o a c) := by
  have key : puOk (xsWh (fun s3 => fX11_copies_L3 (puI (a : Int)) (puI (c : Int)) s3.1 s3.2) ((0 : Int32), g)) (fun o => puCpy g g o a c) := by
    refine puFor1 121 (fun k z => z.1 = puI (k : Int) ∧ ∀ j, z.2 j = if c ≤ j ∧ j < c + k then g (a + (j - c)) else g j) _ ⟨rfl, fun j => (if_neg (by omega)).symm⟩ ?_ ?_
    · rintro k ⟨i, y⟩ hk ⟨rfl, h⟩
      simp only at h
      simp only [fX11_copies_L3]
      rw [xsBr_neg (by rw [puI_lit, puI_le (by omega) (by omega) (by omega) (by omega)]; omega)]
      rw [puI_add, puI_add, show (a : Int) + (k : Int) = ((a + k : Nat) : Int) by omega, show (c : Int) + (k : Int) = ((c + k : Nat) : Int) by omega]
      rw [xsCk_in (by omega) (by omega) (by omega), xsCk_in (by omega) (by omega) (by omega), xsLt_eq, xsLt_eq, puI_clN (by omega), puI_clN (by omega), puI_s1]
      refine ⟨_, rfl, rfl, fun j => ?_⟩
      dsimp only
      by_cases e : j = c + k
      · rw [e, puUpd_eq, if_pos (by omega), h, if_neg (by omega), show a + (c + k - c) = a + k by omega]
      · rw [puUpd_ne e, h j]
        by_cases q : c ≤ j ∧ j < c + k
        · rw [if_pos q, if_pos (by omega)]
        · rw [if_neg q, if_neg (by omega)]
    · rintro ⟨i, y⟩ ⟨rfl, h⟩
      simp only [fX11_copies_L3]
      rw [xsBr_pos (by rw [puI_lit, puI_le (by omega) (by omega) (by omega) (by omega)]; omega)]
      exact ⟨_, rfl, h⟩
  obtain ⟨o, eo, ho⟩ := key
  unfold fX11_copies
  rw [xsBd_some eo]
  exact puOk_some ho
theorem p_copies_v1 {f g : Nat → Int32} {a c : Nat} (ha : a + 121 ≤ 121) (hc : c + 121 ≤ 968) : puOk (fX11_copies_v1 f g (puI (a : Int)) (puI (c : Int))) (fun o => puCpy f g o a c) := by
  have key : puOk (xsWh (fun s3 => fX11_copies_v1_L3 f (puI (a : Int)) (puI (c : Int)) s3.1 s3.2) ((0 : Int32), g)) (fun o => puCpy f g o a c) := by
    refine puFor1 121 (fun k z => z.1 = puI (k : Int) ∧ ∀ j, z.2 j = if c ≤ j ∧ j < c + k then f (a + (j - c)) else g j) _ ⟨rfl, fun j => (if_neg (by omega)).symm⟩ ?_ ?_
    · rintro k ⟨i, y⟩ hk ⟨rfl, h⟩
      simp only at h
      simp only [fX11_copies_v1_L3]
      rw [xsBr_neg (by rw [puI_lit, puI_le (by omega) (by omega) (by omega) (by omega)]; omega)]
      rw [puI_add, puI_add, show (a : Int) + (k : Int) = ((a + k : Nat) : Int) by omega, show (c : Int) + (k : Int) = ((c + k : Nat) : Int) by omega]
      rw [xsCk_in (by omega) (by omega) (by omega), xsCk_in (by omega) (by omega) (by omega), xsLt_eq, xsLt_eq, puI_clN (by omega), puI_clN (by omega), puI_s1]
      refine ⟨_, rfl, rfl, fun j => ?_⟩
      dsimp only
      by_cases e : j = c + k
      · rw [e, puUpd_eq, if_pos (by omega), show a + (c + k - c) = a + k by omega]
      · rw [puUpd_ne e, h j]
        by_cases q : c ≤ j ∧ j < c + k
        · rw [if_pos q, if_pos (by omega)]
        · rw [if_neg q, if_neg (by omega)]
    · rintro ⟨i, y⟩ ⟨rfl, h⟩
      simp only [fX11_copies_v1_L3]
      rw [xsBr_pos (by rw [puI_lit, puI_le (by omega) (by omega) (by omega) (by omega)]; omega)]
      exact ⟨_, rfl, h⟩
  obtain ⟨o, eo, ho⟩ := key
  unfold fX11_copies_v1
  rw [xsBd_some eo]
  exact puOk_some ho
theorem p_copies_v2 {f g : Nat → Int32} {a c : Nat} (ha : a + 121 ≤ 968) (hc : c + 121 ≤ 121) : puOk (fX11_copies_v2 g f (puI (a : Int)) (puI (c : Int))) (fun o => puCpy f g o a c) := by
  have key : puOk (xsWh (fun s3 => fX11_copies_v2_L3 f (puI (a : Int)) (puI (c : Int)) s3.1 s3.2) ((0 : Int32), g)) (fun o => puCpy f g o a c) := by
    refine puFor1 121 (fun k z => z.1 = puI (k : Int) ∧ ∀ j, z.2 j = if c ≤ j ∧ j < c + k then f (a + (j - c)) else g j) _ ⟨rfl, fun j => (if_neg (by omega)).symm⟩ ?_ ?_
    · rintro k ⟨i, y⟩ hk ⟨rfl, h⟩
      simp only at h
      simp only [fX11_copies_v2_L3]
      rw [xsBr_neg (by rw [puI_lit, puI_le (by omega) (by omega) (by omega) (by omega)]; omega)]
      rw [puI_add, puI_add, show (a : Int) + (k : Int) = ((a + k : Nat) : Int) by omega, show (c : Int) + (k : Int) = ((c + k : Nat) : Int) by omega]
      rw [xsCk_in (by omega) (by omega) (by omega), xsCk_in (by omega) (by omega) (by omega), xsLt_eq, xsLt_eq, puI_clN (by omega), puI_clN (by omega), puI_s1]
      refine ⟨_, rfl, rfl, fun j => ?_⟩
      dsimp only
      by_cases e : j = c + k
      · rw [e, puUpd_eq, if_pos (by omega), show a + (c + k - c) = a + k by omega]
      · rw [puUpd_ne e, h j]
        by_cases q : c ≤ j ∧ j < c + k
        · rw [if_pos q, if_pos (by omega)]
        · rw [if_neg q, if_neg (by omega)]
    · rintro ⟨i, y⟩ ⟨rfl, h⟩
      simp only [fX11_copies_v2_L3]
      rw [xsBr_pos (by rw [puI_lit, puI_le (by omega) (by omega) (by omega) (by omega)]; omega)]
      exact ⟨_, rfl, h⟩
  obtain ⟨o, eo, ho⟩ := key
  unfold fX11_copies_v2
  rw [xsBd_some eo]
  exact puOk_some ho
theorem p_copies_v3 {f g : Nat → Int32} {a c : Nat} (ha : a + 121 ≤ 121) (hc : c + 121 ≤ 121) : puOk (fX11_copies_v3 f g (puI (a : Int)) (puI (c : Int))) (fun o => puCpy f g o a c) := by
  have key : puOk (xsWh (fun s3 => fX11_copies_v3_L3 f (puI (a : Int)) (puI (c : Int)) s3.1 s3.2) ((0 : Int32), g)) (fun o => puCpy f g o a c) := by
    refine puFor1 121 (fun k z => z.1 = puI (k : Int) ∧ ∀ j, z.2 j = if c ≤ j ∧ j < c + k then f (a + (j - c)) else g j) _ ⟨rfl, fun j => (if_neg (by omega)).symm⟩ ?_ ?_
    · rintro k ⟨i, y⟩ hk ⟨rfl, h⟩
      simp only at h
      simp only [fX11_copies_v3_L3]
      rw [xsBr_neg (by rw [puI_lit, puI_le (by omega) (by omega) (by omega) (by omega)]; omega)]
      rw [puI_add, puI_add, show (a : Int) + (k : Int) = ((a + k : Nat) : Int) by omega, show (c : Int) + (k : Int) = ((c + k : Nat) : Int) by omega]
      rw [xsCk_in (by omega) (by omega) (by omega), xsCk_in (by omega) (by omega) (by omega), xsLt_eq, xsLt_eq, puI_clN (by omega), puI_clN (by omega), puI_s1]
      refine ⟨_, rfl, rfl, fun j => ?_⟩
      dsimp only
      by_cases e : j = c + k
      · rw [e, puUpd_eq, if_pos (by omega), show a + (c + k - c) = a + k by omega]
      · rw [puUpd_ne e, h j]
        by_cases q : c ≤ j ∧ j < c + k
        · rw [if_pos q, if_pos (by omega)]
        · rw [if_neg q, if_neg (by omega)]
    · rintro ⟨i, y⟩ ⟨rfl, h⟩
      simp only [fX11_copies_v3_L3]
      rw [xsBr_pos (by rw [puI_lit, puI_le (by omega) (by omega) (by omega) (by omega)]; omega)]
      exact ⟨_, rfl, h⟩
  obtain ⟨o, eo, ho⟩ := key
  unfold fX11_copies_v3
  rw [xsBd_some eo]
  exact puOk_some ho
theorem p_copies_v4 {f g : Nat → Int32} {a c : Nat} (ha : a + 121 ≤ 121) (hc : c + 121 ≤ 121) : puOk (fX11_copies_v4 g f (puI (a : Int)) (puI (c : Int))) (fun o => puCpy f g o a c) := p_copies_v3 ha hc
theorem q_fault : pc_fault puRl := by
  intro kIsKept kIsStale hiLatest hiSize scLength scFault scAt scNumber piSegmentsNow enKind enFromX enFromY enToX enToY tiMeetingPairs tiAlongPairs tiSize evSize evCrossings evSegmentsNow grEdges grQueued huSize huBestX huBestY scBytes scTold tiTouching tiLyingAlong evBundle evCrossingOf evEventOf evLeftEvent evRightEvent grDegree grFar grQueue huX huY enX enY enLower evX evY evLower S mThrown mRemembered mHasImage mIsLaid mEvents mCrossings mEdges mTaped mPoint mEnd mBegin mFaultAt mActs mWorld mImage mDraft mEarlier mOne mTwo mShare mCrossingOf mBundle mEventOf mDegree mFrom mTo mMet mTape mFive mTold mFar mViews mHullX mHullY mEndX mEndY mMeets mMeetsOf mX mY mD mHeightUp mHeightLow mEventX mEventY mEventD mUpper mLower hR
  obtain ⟨n, G, rw, ri, rh, rt, rk, rm⟩ := hR
  obtain ⟨L, t1, t2, t3, t4, t5⟩ := rt
  exact ⟨_, _, rfl, rfl, t5, n, G, rw, ri, rh, ⟨L, t1, t2, t3, t4, t5⟩, rk, rm⟩
theorem p_shorten {L : Nat} {z : Int} (hL : L ≤ 400) (z1 : -2147483648 ≤ z) (z2 : z ≤ 2147483647) : fX10_end (puI (L : Int)) (puI z) = some (puB (0 ≤ z ∧ z ≤ (L : Int)), puI (if 0 ≤ z ∧ z ≤ (L : Int) then z else (L : Int))) := by
  unfold fX10_end fX6_shorten
  simp (disch := omega) only [show (0 : Int32) = puI 0 by rfl, puI_lt, puI_le]
  by_cases c : z < 0
  · rw [xsBr_pos c, xsBd_sm, puB_neg (by omega), if_neg (by omega)]; exact xsCk_pos xsB_0
  · rw [xsBr_neg c]
    by_cases d : z ≤ (L : Int)
    · rw [xsBr_pos d, xsBd_sm, puB_pos (by omega), if_pos (by omega), xsCk_pos xsB_1]
    · rw [xsBr_neg d, xsBd_sm, puB_neg (by omega), if_neg (by omega)]; exact xsCk_pos xsB_0
theorem p_mend {L : Nat} {z : Int} {th : Int32} (hL : L ≤ 400) (z1 : -2147483648 ≤ z) (z2 : z ≤ 2147483647) : fX11_end th (puI (L : Int)) (puI z) = some (puB (0 ≤ z ∧ z ≤ (L : Int)), 0, puI (if 0 ≤ z ∧ z ≤ (L : Int) then z else (L : Int))) := by
  unfold fX11_end
  simp (disch := omega) only [show (0 : Int32) = puI 0 by rfl, puI_lt, puI_le]
  by_cases c : z < 0
  · rw [xsBr_pos c, puB_neg (by omega), if_neg (by omega)]; rfl
  · rw [xsBr_neg c]
    by_cases d : z ≤ (L : Int)
    · rw [xsBr_pos d, puB_pos (by omega), if_pos (by omega)]
    · rw [xsBr_neg d, puB_neg (by omega), if_neg (by omega)]; rfl
theorem q_end : pc_end puRl := by
  intro kIsKept kIsStale hiLatest hiSize scLength scFault scAt scNumber piSegmentsNow enKind enFromX enFromY enToX enToY tiMeetingPairs tiAlongPairs tiSize evSize evCrossings evSegmentsNow grEdges grQueued huSize huBestX huBestY scBytes scTold tiTouching tiLyingAlong evBundle evCrossingOf evEventOf evLeftEvent evRightEvent grDegree grFar grQueue huX huY enX enY enLower evX evY evLower S mThrown mRemembered mHasImage mIsLaid mEvents mCrossings mEdges mTaped mPoint mEnd mBegin mFaultAt mActs mWorld mImage mDraft mEarlier mOne mTwo mShare mCrossingOf mBundle mEventOf mDegree mFrom mTo mMet mTape mFive mTold mFar mViews mHullX mHullY mEndX mEndY mMeets mMeetsOf mX mY mD mHeightUp mHeightLow mEventX mEventY mEventD mUpper mLower hR a0
  obtain ⟨n, G, rw, ri, rh, rt, rk, rm⟩ := hR
  obtain ⟨L, t1, t2, t3, t4, t5⟩ := rt
  obtain ⟨z, rfl, z1, z2⟩ := puI_ex a0
  rw [t2, t3, p_shorten t1 z1 z2, p_mend t1 z1 z2]
  refine ⟨_, _, rfl, rfl, rfl, n, G, rw, ri, rh, ?_, rk, rm⟩
  by_cases c : 0 ≤ z ∧ z ≤ (L : Int)
  · refine ⟨z.toNat, by omega, ?_, ?_, fun i hi => t4 i (by omega), t5⟩
    · show puI (if _ then z else _) = puI _
      rw [if_pos c]; congr 1; omega
    · show puI (if _ then z else _) = puI _
      rw [if_pos c]; congr 1; omega
  · refine ⟨L, t1, ?_, ?_, t4, t5⟩
    · show puI (if _ then z else _) = puI _
      rw [if_neg c]
    · show puI (if _ then z else _) = puI _
      rw [if_neg c]
theorem puRh_S {la sz : Int32} {S S' : Nat → xsV} {rm : Int32} {ea : Nat → Int32} (h : puRh la sz S rm ea) (e : ∀ i, 4 ≤ i → S' i = S i) : puRh la sz S' rm ea := by
  obtain ⟨k, l, h1, h2, h3, h4, h5, h6⟩ := h
  exact ⟨k, l, h1, h2, h3, h4, h5, fun i hi => by rw [e _ (by omega)]; exact h6 i hi⟩
theorem q_image : pc_image puRl := by
  intro kIsKept kIsStale hiLatest hiSize scLength scFault scAt scNumber piSegmentsNow enKind enFromX enFromY enToX enToY tiMeetingPairs tiAlongPairs tiSize evSize evCrossings evSegmentsNow grEdges grQueued huSize huBestX huBestY scBytes scTold tiTouching tiLyingAlong evBundle evCrossingOf evEventOf evLeftEvent evRightEvent grDegree grFar grQueue huX huY enX enY enLower evX evY evLower S mThrown mRemembered mHasImage mIsLaid mEvents mCrossings mEdges mTaped mPoint mEnd mBegin mFaultAt mActs mWorld mImage mDraft mEarlier mOne mTwo mShare mCrossingOf mBundle mEventOf mDegree mFrom mTo mMet mTape mFive mTold mFar mViews mHullX mHullY mEndX mEndY mMeets mMeetsOf mX mY mD mHeightUp mHeightLow mEventX mEventY mEventD mUpper mLower hR
  obtain ⟨n, G, rw, ri, rh, rt, rk, rm⟩ := hR
  obtain ⟨w1, w2, w3⟩ := rw
  obtain ⟨o, eo, ho⟩ := p_copyFrom w1.1 w2 (lx := (S 1).1) (ly := (S 1).2.1) (rx := (S 1).2.2.1) (ry := (S 1).2.2.2.1) (ti := (S 1).2.2.2.2.1) (sz := (S 1).2.2.2.2.2)
  obtain ⟨g, eg, hg⟩ := p_copies_v3 (f := mWorld) (g := mImage) (a := 0) (c := 0) (by omega) (by omega)
  unfold fX10_image fX11_image
  rw [xsBd_some eo, xsBd_some (show fX11_copies_v3 mWorld mImage (0 : Int32) (0 : Int32) = some g from eg)]
  have hm : puMW n G g := puMW_0.mp (puMW_cpy w1.1 hg (puMW_0.mpr w3))
  refine ⟨_, _, rfl, rfl, n, G, ?_, Or.inr ⟨rfl, rfl, n, G, w1, ?_, hm⟩, puRh_S rh (fun i hi => xsSu_ne (by omega)), rt, rk, rm⟩
  · rw [xsSu_ne (by decide)]; exact ⟨w1, w2, w3⟩
  · rw [xsSu_eq]; exact ho
theorem q_back : pc_back puRl := by
  intro kIsKept kIsStale hiLatest hiSize scLength scFault scAt scNumber piSegmentsNow enKind enFromX enFromY enToX enToY tiMeetingPairs tiAlongPairs tiSize evSize evCrossings evSegmentsNow grEdges grQueued huSize huBestX huBestY scBytes scTold tiTouching tiLyingAlong evBundle evCrossingOf evEventOf evLeftEvent evRightEvent grDegree grFar grQueue huX huY enX enY enLower evX evY evLower S mThrown mRemembered mHasImage mIsLaid mEvents mCrossings mEdges mTaped mPoint mEnd mBegin mFaultAt mActs mWorld mImage mDraft mEarlier mOne mTwo mShare mCrossingOf mBundle mEventOf mDegree mFrom mTo mMet mTape mFive mTold mFar mViews mHullX mHullY mEndX mEndY mMeets mMeetsOf mX mY mD mHeightUp mHeightLow mEventX mEventY mEventD mUpper mLower hR
  obtain ⟨n, G, rw, ri, rh, rt, rk, rm⟩ := hR
  rcases ri with ⟨i1, i2⟩ | ⟨i1, i2, n', G', v1, v2, v3⟩
  · unfold fX10_back fX11_back
    rw [xsBr_pos i1, xsBr_pos i2]
    refine ⟨_, _, rfl, rfl, rfl, n, G, ?_, Or.inl ⟨i1, i2⟩, puRh_S rh (fun i hi => xsSu_ne (by omega)), rt, rk, rm⟩
    rw [xsSu_eq]; exact rw
  · obtain ⟨o, eo, ho1, ho2⟩ := p_become v1.1 v2 (st := kIsStale) (lx := (S 0).1) (ly := (S 0).2.1) (rx := (S 0).2.2.1) (ry := (S 0).2.2.2.1) (ti := (S 0).2.2.2.2.1) (sz := (S 0).2.2.2.2.2)
    obtain ⟨g, eg, hg⟩ := p_copies_v4 (f := mImage) (g := mWorld) (a := 0) (c := 0) (by omega) (by omega)
    have hm : puMW n' G' g := puMW_0.mp (puMW_cpy v1.1 hg (puMW_0.mpr v3))
    unfold fX10_back fX11_back
    rw [xsBr_neg (by rw [i1]; decide), xsBr_neg (by rw [i2]; decide)]
    simp only [fX3_forget, xsBd_sm]
    rw [xsBd_some eo, xsBd_some (show fX11_copies_v4 mWorld mImage (0 : Int32) (0 : Int32) = some g from eg)]
    obtain ⟨h, l, h1, h2, h3, h4, h5, h6⟩ := rh
    refine ⟨_, _, rfl, rfl, rfl, n', G', ?_, Or.inr ⟨i1, i2, n', G', v1, ?_, v3⟩, ⟨0, l, by omega, h2, h3, rfl, rfl, fun i hi => by omega⟩, rt, Or.inl ho1, Or.inl rfl⟩
    · rw [xsSu_eq]; exact ⟨v1, ho2, hm⟩
    · rw [xsSu_ne (by decide)]; exact v2
