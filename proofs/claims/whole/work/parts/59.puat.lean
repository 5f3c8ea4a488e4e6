/-! PURE: checks; who has a whole point -/
noncomputable def puCk (c : Prop) (n : Nat) : Unit ⊕ (Nat × Unit) := puE c (.inl ()) (.inr (n, ()))
theorem puCk_pos {c : Prop} {n : Nat} (h : c) : puCk c n = .inl () := puE_pos h
theorem puCk_neg {c : Prop} {n : Nat} (h : ¬ c) : puCk c n = .inr (n, ()) := puE_neg h
def puInC (x : Int) : Prop := -999 ≤ x ∧ x ≤ 999
theorem p_checkPlace {k : Int} {m : Nat} (h1 : -2147483648 ≤ k) (h2 : k ≤ 2147483647) (hm : m ≤ 100000) : fX10_checkPlace (puI k) (puI (m : Int)) = some (puCk (0 ≤ k ∧ k < (m : Int)) 3) := by
  unfold fX10_checkPlace
  simp (disch := omega) only [show (0 : Int32) = puI 0 by rfl, puI_lt]
  by_cases a : k < 0
  · rw [xsBr_pos a, puCk_neg (by omega)]
  · rw [xsBr_neg a]
    by_cases b : k < (m : Int)
    · rw [xsBr_pos b, puCk_pos (by omega)]
    · rw [xsBr_neg b, puCk_neg (by omega)]
theorem p_checkSegment {k : Int} {m : Nat} (h1 : -2147483648 ≤ k) (h2 : k ≤ 2147483647) (hm : m ≤ 100000) : fX10_checkSegment (puI (m : Int)) (puI k) = some (puCk (0 ≤ k ∧ k < (m : Int)) 3) := by
  unfold fX10_checkSegment
  rw [p_checkPlace h1 h2 hm, xsBd_sm]
  by_cases a : 0 ≤ k ∧ k < (m : Int)
  · rw [puCk_pos a]; rfl
  · rw [puCk_neg a]; rfl
theorem p_isCoord {x : Int} (h1 : -9000000000000 ≤ x) (h2 : x ≤ 9000000000000) : fX10_isCoordinate (puJ x) = some (puB (puInC x)) := by
  unfold fX10_isCoordinate
  rw [show (-999 : Int64) = puJ (-999) by rfl, show (999 : Int64) = puJ 999 by rfl]
  by_cases a : x < -999
  · rw [xsBr_pos ((puJ_lt (by omega) (by omega) (by omega) (by omega)).mpr a), puB_neg (by unfold puInC; omega)]
  · rw [xsBr_neg (fun q => a ((puJ_lt (by omega) (by omega) (by omega) (by omega)).mp q))]
    by_cases b : 999 < x
    · rw [xsBr_pos ((puJ_lt (by omega) (by omega) (by omega) (by omega)).mpr b), puB_neg (by unfold puInC; omega)]
    · rw [xsBr_neg (fun q => b ((puJ_lt (by omega) (by omega) (by omega) (by omega)).mp q)), puB_pos (by unfold puInC; omega)]
theorem p_checkPoint {x y : Int} (h1 : -2147483648 ≤ x) (h2 : x ≤ 2147483647) (h3 : -2147483648 ≤ y) (h4 : y ≤ 2147483647) : fX10_checkPoint (puI x) (puI y) = some (puCk (puInC x ∧ puInC y) 1) := by
  unfold fX10_checkPoint
  rw [puI_l h1 h2, puI_l h3 h4, p_isCoord (by omega) (by omega), p_isCoord (by omega) (by omega), xsBd_sm, xsBd_sm]
  simp only [puB_0, xsBr_not]
  by_cases a : puInC x
  · rw [xsBr_pos a]
    by_cases b : puInC y
    · rw [xsBr_pos b, puCk_pos ⟨a, b⟩]
    · rw [xsBr_neg b, puCk_neg (fun q => b q.2)]
  · rw [xsBr_neg a, puCk_neg (fun q => a q.1)]
theorem p_checkTint {k : Int} (h1 : -2147483648 ≤ k) (h2 : k ≤ 2147483647) : fX10_checkTint (puI k) = some (puCk (0 ≤ k ∧ k ≤ 3) 1) := by
  unfold fX10_checkTint
  simp (disch := omega) only [show (0 : Int32) = puI 0 by rfl, show (3 : Int32) = puI 3 by rfl, puI_lt, puI_le]
  by_cases a : k < 0
  · rw [xsBr_pos a, puCk_neg (by omega)]
  · rw [xsBr_neg a]
    by_cases b : k ≤ 3
    · rw [xsBr_pos b, puCk_pos (by omega)]
    · rw [xsBr_neg b, puCk_neg (by omega)]
theorem p_checkQuestion {k m : Int} (h1 : -2147483648 ≤ k) (h2 : k ≤ 2147483647) (hm : 0 ≤ m ∧ m ≤ 100) : fX10_checkQuestion (puI k) (puI m) = some (puCk (0 ≤ k ∧ k ≤ m) 4) := by
  unfold fX10_checkQuestion
  simp (disch := omega) only [show (0 : Int32) = puI 0 by rfl, puI_lt, puI_le]
  by_cases a : k < 0
  · rw [xsBr_pos a, puCk_neg (by omega)]
  · rw [xsBr_neg a]
    by_cases b : k ≤ m
    · rw [xsBr_pos b, puCk_pos (by omega)]
    · rw [xsBr_neg b, puCk_neg (by omega)]
theorem p_checkTwo {k m : Int} (h1 : -2147483648 ≤ k) (h2 : k ≤ 2147483647) (h3 : -2147483648 ≤ m) (h4 : m ≤ 2147483647) : fX10_checkTwo (puI k) (puI m) = some (puCk (k ≠ m) 1) := by
  unfold fX10_checkTwo
  simp (disch := omega) only [puI_eq]
  by_cases a : k = m
  · rw [xsBr_pos a, puCk_neg (fun q => q a)]
  · rw [xsBr_neg a, puCk_pos a]
theorem p_throwsIf {c : Prop} {th code : Int32} : fX11_throwsIf th (puB c) code = some (puB c, puE c code th) := by
  unfold fX11_throwsIf
  by_cases h : c
  · rw [puB_pos h, xsBr_neg (by decide), xsCk_pos xsB_1, puE_pos h]
  · rw [puB_neg h, xsBr_pos rfl, xsCk_pos xsB_0, puE_neg h]
theorem p_isPlace {x y : Int} (h1 : -2147483648 ≤ x) (h2 : x ≤ 2147483647) (h3 : -2147483648 ≤ y) (h4 : y ≤ 2147483647) : fX11_isPlace (puI x) (puI y) = some (puB (puInC x ∧ puInC y)) := by
  unfold fX11_isPlace
  rw [puI_l h1 h2, puI_l h3 h4, show (-999 : Int64) = puJ (-999) by rfl, show (999 : Int64) = puJ 999 by rfl, p_in (by omega) (by omega) (by omega), p_in (by omega) (by omega) (by omega)]
  simp only [xsBd_sm, puB_0, xsBr_not, xsBr_10, xsBr_B0]
  rfl
theorem p_noPlace {x y : Int} {th : Int32} (h1 : -2147483648 ≤ x) (h2 : x ≤ 2147483647) (h3 : -2147483648 ≤ y) (h4 : y ≤ 2147483647) : fX11_noPlace th (puI x) (puI y) = some (puB (¬ (puInC x ∧ puInC y)), puE (¬ (puInC x ∧ puInC y)) 1 th) := by
  unfold fX11_noPlace
  rw [p_isPlace h1 h2 h3 h4, xsBd_sm]
  simp only [puB_0, xsBr_10, xsBd_sm, fX11_noPlace_J14]
  rw [p_throwsIf, xsBd_sm]
  exact xsCk_pos (puB_xsB _)
theorem p_noSegment {n : Nat} {G : puG} {w : Nat → Int32} (hn : n ≤ 24) (hw : puMW n G w) {th : Int32} {k : Int} (h1 : -2147483648 ≤ k) (h2 : k ≤ 2147483647) : fX11_noSegment th w (puI k) = some (puB (¬ (0 ≤ k ∧ k < (n : Int))), puE (¬ (0 ≤ k ∧ k < (n : Int))) 1 0) := by
  unfold fX11_noSegment
  rw [p_many hw, xsBd_sm, puI_l h1 h2, show (1 : Int32) = puI 1 by rfl, puI_sub, puI_l (by omega) (by omega), show (0 : Int64) = puJ 0 by rfl, p_in (by omega) (by omega) (by omega), xsBd_sm, show puI 1 = (1 : Int32) by rfl]
  simp only [puB_0, xsBr_10, xsBd_sm, fX11_noSegment_J27]
  rw [p_throwsIf, xsBd_sm]
  have e : (¬ (0 ≤ k ∧ k ≤ (n : Int) - 1)) ↔ ¬ (0 ≤ k ∧ k < (n : Int)) := by omega
  rw [puB_iff e, puE_iff e]
  exact xsCk_pos (puB_xsB _)
theorem puRep_C {x y : Int} (hx : puInC x) (hy : puInC y) : puRep (puJ x) (puJ y) (puJ 1) (puC (x, y)) := by
  unfold puInC at *
  exact ⟨_, _, 1, rfl, rfl, rfl, by omega, ⟨(Rat.mul_one _).symm, (Rat.mul_one _).symm⟩, by omega, by omega⟩
/-- a whole point on a stretch, as the class tells it -/
theorem puHas_iff {q : puS} (v : puV q) {x y : Int} : ((q.1 ≤ x ∧ x ≤ q.2.2.1) ∧ puGp q x y = 0) ↔ puOn q (puC (x, y)) := by
  have m := puOn_m (q := q) v (X := x) (Y := y) (D := 1) (p := puC (x, y)) (by omega) (Rat.mul_one _).symm (Rat.mul_one _).symm
  simp only [Int.mul_one] at m
  rw [m]
  have vd := v.2.2
  unfold puGp
  rcases vd with w | ⟨w, h⟩
  · rw [puE_neg (by omega)]
    constructor
    · rintro ⟨⟨h1, h2⟩, h3⟩
      have h3' : (x - q.1) * puH q = (y - q.2.1) * puW q := by
        have : (q.2.1 - y) * puW q = -((y - q.2.1) * puW q) := by rw [← Int.neg_mul]; congr 1; omega
        omega
      refine ⟨h3', ⟨h1, h2⟩, ?_⟩
      have eH : q.2.2.2.1 = q.2.1 + puH q := by unfold puH; omega
      have eW : q.2.2.1 = q.1 + puW q := by unfold puW; omega
      rcases Int.le_total 0 (puH q) with hh | hh
      · rw [show min q.2.1 q.2.2.2.1 = q.2.1 by omega, show max q.2.1 q.2.2.2.1 = q.2.2.2.1 by omega]
        have a1 : 0 ≤ (x - q.1) * puH q := Int.mul_nonneg (by omega) hh
        have a2 : (x - q.1) * puH q ≤ puW q * puH q := Int.mul_le_mul_of_nonneg_right (by omega) hh
        have a3 : 0 ≤ y - q.2.1 := Int.le_of_mul_le_mul_right (a := puW q) (by rw [Int.zero_mul, ← h3']; exact a1) w
        have a4 : y - q.2.1 ≤ puH q := Int.le_of_mul_le_mul_right (a := puW q) (by rw [← h3', Int.mul_comm (puH q)]; exact a2) w
        omega
      · rw [show min q.2.1 q.2.2.2.1 = q.2.2.2.1 by omega, show max q.2.1 q.2.2.2.1 = q.2.1 by omega]
        have a1 : (x - q.1) * puH q ≤ 0 := Int.mul_nonpos_of_nonneg_of_nonpos (by omega) hh
        have a2 : puW q * puH q ≤ (x - q.1) * puH q := Int.mul_le_mul_of_nonpos_right (by omega) hh
        have a3 : y - q.2.1 ≤ 0 := Int.le_of_mul_le_mul_right (a := puW q) (by rw [Int.zero_mul, ← h3']; exact a1) w
        have a4 : puH q ≤ y - q.2.1 := Int.le_of_mul_le_mul_right (a := puW q) (by rw [← h3', Int.mul_comm (puH q)]; exact a2) w
        omega
    · rintro ⟨h1, h2, -⟩
      refine ⟨h2, ?_⟩
      have : (q.2.1 - y) * puW q = -((y - q.2.1) * puW q) := by rw [← Int.neg_mul]; congr 1; omega
      omega
  · rw [puE_pos w, puE_eq, puE_eq, w, Int.mul_zero]
    have eH : q.2.2.2.1 = q.2.1 + puH q := by unfold puH; omega
    have eW : q.2.2.1 = q.1 := by unfold puW at w; omega
    rw [show min q.2.1 q.2.2.2.1 = q.2.1 by omega, show max q.2.1 q.2.2.2.1 = q.2.2.2.1 by omega]
    constructor
    · rintro ⟨h1, h2⟩
      have ex : x - q.1 = 0 := by omega
      rw [ex, Int.zero_mul]
      refine ⟨rfl, h1, ?_⟩
      split at h2
      · split at h2 <;> omega
      · omega
    · rintro ⟨-, h1, h2⟩
      refine ⟨h1, ?_⟩
      rw [if_pos (by omega), if_pos (by omega)]
theorem p_at {n : Nat} {G : puG} {lx ly rx ry : Nat → Int32} (hv : puVal n G) (hk : puKW n G lx ly rx ry) {x y : Int} (hx : puInC x) (hy : puInC y) :
    puOk (xsWh (fun s6 => fX10_at_L10 lx ly rx ry (puI (n : Int)) (puI x) (puI y) s6.1 s6.2) ((0 : Int32), (0 : Int32))) (fun r => puSt r (fun s => s < n ∧ puOn (G s) (puC (x, y)))) := by
  have hn := hv.1
  refine puFor1 n (fun k z => z.2 = puI (k : Int) ∧ puSt z.1 (fun s => s < k ∧ puOn (G s) (puC (x, y)))) _ ⟨rfl, puSt_c puSt_0 (fun i _ => ⟨fun q => q.elim, fun q => absurd q.1 (by omega)⟩)⟩ ?_ ?_
  · rintro k ⟨b, i⟩ hkn ⟨rfl, h⟩
    simp only at h
    simp only [fX10_at_L10]
    rw [xsBr_neg (by rw [puI_leN (by omega) (by omega)]; omega), p_hasPoint (hk k hkn) (hv.2 k hkn) (by omega) hx hy, puB_iff (puHas_iff (hv.2 k hkn)), xsBd_sm]
    by_cases c : puOn (G k) (puC (x, y))
    · rw [xsBr_neg (by rw [puB_pos c]; decide), xsLt_eq, xsBd_sm]
      simp only [fX10_at_J43]
      rw [xsLt_eq, puI_s1]
      refine ⟨_, rfl, rfl, puSt_c (puSt_or h (puSt_1 (s := k) (by omega))) (fun i _ => ?_)⟩
      constructor
      · rintro (q | q)
        · exact ⟨by omega, q.2⟩
        · subst q; exact ⟨by omega, c⟩
      · rintro ⟨q1, q2⟩
        by_cases e : i = k
        · exact Or.inr e
        · exact Or.inl ⟨by omega, q2⟩
    · rw [xsBr_pos (by rw [puB_neg c]), xsBd_sm]
      simp only [fX10_at_J43]
      rw [xsLt_eq, puI_s1]
      refine ⟨_, rfl, rfl, puSt_c h (fun i _ => ⟨fun q => ⟨by omega, q.2⟩, fun q => ⟨?_, q.2⟩⟩)⟩
      by_cases e : i = k
      · subst e; exact absurd q.2 c
      · have := q.1; omega
  · rintro ⟨b, i⟩ ⟨rfl, h⟩
    simp only [fX10_at_L10]
    rw [xsBr_pos (by rw [puI_leN (by omega) (by omega)]; omega)]
    exact ⟨_, rfl, h⟩
theorem p_whoHas {n : Nat} {G : puG} {w one : Nat → Int32} (hv : puVal n G) (hw : puMW n G w) {x y : Int} (hx : puInC x) (hy : puInC y) : puOk (fX11_whoHas w one (puI x) (puI y)) (fun r => puSt r.1 (fun s => s < n ∧ puOn (G s) (puC (x, y)))) := by
  have hn := hv.1
  have key : puOk (xsWh (fun s4 => fX11_whoHas_L5 w (puI x) (puI y) s4.1 s4.2.1 s4.2.2) ((0 : Int32), (0 : Int32), one)) (fun r => puSt r.1 (fun s => s < n ∧ puOn (G s) (puC (x, y)))) := by
    refine puFor1 n (fun k z => z.2.1 = puI (k : Int) ∧ puSt z.1 (fun s => s < k ∧ puOn (G s) (puC (x, y)))) _ ⟨rfl, puSt_c puSt_0 (fun i _ => ⟨fun q => q.elim, fun q => absurd q.1 (by omega)⟩)⟩ ?_ ?_
    · rintro k ⟨b, i, one⟩ hkn ⟨rfl, h⟩
      simp only at h
      simp only [fX11_whoHas_L5]
      obtain ⟨f, ef, hf⟩ := p_takes (f := one) (show k < 24 by omega) (hw.2 k hkn)
      have hr := puRep_C hx hy
      unfold puInC at hx hy
      rw [p_many hw, xsBd_sm, xsBr_neg (by rw [puI_leN (by omega) (by omega)]; omega), xsBd_some ef, puI_l (by omega) (by omega), puI_l (by omega) (by omega), show (1 : Int64) = puJ 1 by rfl, p_isOn1 hf (hv.2 k hkn) hr, xsBd_sm]
      by_cases c : puOn (G k) (puC (x, y))
      · rw [xsBr_neg (by rw [puB_pos c]; decide), xsBd_sm]
        simp only [fX11_whoHas_J48]
        rw [xsLt_eq, xsLt_eq, puI_s1]
        refine ⟨_, rfl, rfl, puSt_c (puSt_or h (puSt_1 (s := k) (by omega))) (fun i _ => ?_)⟩
        constructor
        · rintro (q | q)
          · exact ⟨by omega, q.2⟩
          · subst q; exact ⟨by omega, c⟩
        · rintro ⟨q1, q2⟩
          by_cases e : i = k
          · exact Or.inr e
          · exact Or.inl ⟨by omega, q2⟩
      · rw [xsBr_pos (by rw [puB_neg c]), xsBd_sm]
        simp only [fX11_whoHas_J48]
        rw [xsLt_eq, xsLt_eq, puI_s1]
        refine ⟨_, rfl, rfl, puSt_c (puSt_or h puSt_0) (fun i _ => ⟨fun q => q.elim (fun q => ⟨by omega, q.2⟩) (fun q => q.elim), fun q => Or.inl ⟨?_, q.2⟩⟩)⟩
        by_cases e : i = k
        · subst e; exact absurd q.2 c
        · have := q.1; omega
    · rintro ⟨b, i, one⟩ ⟨rfl, h⟩
      simp only [fX11_whoHas_L5]
      rw [p_many hw, xsBd_sm, xsBr_pos (by rw [puI_leN (by omega) (by omega)]; omega)]
      exact ⟨_, rfl, h⟩
  obtain ⟨r, er, hr⟩ := key
  unfold fX11_whoHas
  rw [xsBd_some er]
  exact puOk_some hr
theorem q_at : pc_at puRl := by
  intro kIsKept kIsStale hiLatest hiSize scLength scFault scAt scNumber piSegmentsNow enKind enFromX enFromY enToX enToY tiMeetingPairs tiAlongPairs tiSize evSize evCrossings evSegmentsNow grEdges grQueued huSize huBestX huBestY scBytes scTold tiTouching tiLyingAlong evBundle evCrossingOf evEventOf evLeftEvent evRightEvent grDegree grFar grQueue huX huY enX enY enLower evX evY evLower S mThrown mRemembered mHasImage mIsLaid mEvents mCrossings mEdges mTaped mPoint mEnd mBegin mFaultAt mActs mWorld mImage mDraft mEarlier mOne mTwo mShare mCrossingOf mBundle mEventOf mDegree mFrom mTo mMet mTape mFive mTold mFar mViews mHullX mHullY mEndX mEndY mMeets mMeetsOf mX mY mD mHeightUp mHeightLow mEventX mEventY mEventD mUpper mLower hR a0 a1
  obtain ⟨n, G, rw, ri, rh, rt, rk, rm⟩ := hR
  obtain ⟨x, rfl, x1, x2⟩ := puI_ex a0
  obtain ⟨y, rfl, y1, y2⟩ := puI_ex a1
  obtain ⟨w1, w2, w3⟩ := id rw
  unfold fX10_at fX11_at
  rw [w2.2.2, p_checkPoint x1 x2 y1 y2, p_noPlace x1 x2 y1 y2, xsBd_sm, xsBd_sm]
  by_cases c : puInC x ∧ puInC y
  · obtain ⟨r, er, hr⟩ := p_at w1 w2.1 c.1 c.2
    obtain ⟨r2, er2, hr2⟩ := p_whoHas w1 w3 c.1 c.2 (one := mOne)
    rw [puCk_pos c, puB_neg (fun q => q c), puE_neg (fun q => q c)]
    simp only [xsTh]
    rw [xsBd_some er, xsBr_T, xsBd_some er2]
    exact ⟨_, _, rfl, rfl, Or.inl ⟨_, rfl, puSt_eq hr hr2, rfl, n, G, rw, ri, rh, rt, rk, rm⟩⟩
  · rw [puCk_neg c, puB_pos c, puE_pos c]
    simp only [xsTh]
    rw [xsBr_neg (by decide)]
    exact ⟨_, _, rfl, rfl, Or.inr ⟨_, _, rfl, rfl, rfl, n, G, rw, ri, rh, rt, rk, rm⟩⟩
