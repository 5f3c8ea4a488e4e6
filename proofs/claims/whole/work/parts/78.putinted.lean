/-! PURE: TINTED -/
def ti_a (n : Nat) (G : puG) (t : Int) (e s : Nat) : Prop := (G s).2.2.2.2 = t ∧ puO n G s e
def ti_c (n : Nat) (G : puG) (t u : Int) (e : Nat) : Prop := (t = u ∧ 1 < puN (ti_a n G t e) n) ∨ (t ≠ u ∧ 0 < puN (ti_a n G t e) n ∧ 0 < puN (ti_a n G u e) n)
theorem p_tin22 {n : Nat} {G : puG} {ti : Nat → Int32} (hv : puVal n G) (ht : ∀ s, s < n → ti s = puI (G s).2.2.2.2) {N : Nat} {C : Nat → Prop} {o7 : _} (hN : N ≤ 324) (hb : ∀ k, k < N → puSt (o7.2.2.2.2.2.2.2.2.2.2.2.2.2.2.2.2.2.2.1 k) (fun s => puO n G s k)) (heo : puEo C N o7.2.2.2.2.2.2.2.2.2.2.2.2.2.2.2.2.2.2.2.2.1) (hnc : o7.2.2.2.2.2.2.2.2.2.2.2.2.2.2.2.2.2.2.2.2.2.2.2.2.1 = puI (puN C N : Int)) {t u : Int} (t1 : 0 ≤ t ∧ t ≤ 3) (u1 : 0 ≤ u ∧ u ≤ 3) :
    xsWh (fun s11 => fX10_tinted_L22 ti (puI (n : Int)) (puI t) (puI u) o7 s11.1 s11.2) ((0 : Int32), (0 : Int32)) = some (puI (puN (cp C (ti_c n G t u)) (puN C N) : Int)) := by
  have hn := hv.1
  have cn := puN_le C N
  have key : puOk (xsWh (fun s11 => fX10_tinted_L22 ti (puI (n : Int)) (puI t) (puI u) o7 s11.1 s11.2) ((0 : Int32), (0 : Int32))) (fun r => r = puI (puN (cp C (ti_c n G t u)) (puN C N) : Int)) := by
    refine puFor1 (puN C N) (fun m z => z.2 = puI (m : Int) ∧ z.1 = puI (puN (cp C (ti_c n G t u)) m : Int)) _ ⟨rfl, rfl⟩ ?_ ?_
    · rintro m ⟨y1, y2⟩ hm ⟨q1, q2⟩
      simp only at q1 q2
      subst q1; subst q2
      obtain ⟨e, he, hC, hc⟩ := puN_kth hm
      have q := heo e he hC
      rw [hc] at q
      obtain ⟨a, ea, ha⟩ := p_ofTint hv ht t1
      obtain ⟨b, eb, hbb⟩ := p_ofTint hv ht u1
      have sa : puSt (a &&& o7.2.2.2.2.2.2.2.2.2.2.2.2.2.2.2.2.2.2.1 e) (fun s => s < n ∧ ti_a n G t e s) := puSt_c (puSt_and ha (hb e he)) (fun i _ => ⟨fun z => ⟨z.1.1, z.1.2, z.2⟩, fun z => ⟨⟨z.1, z.2.1⟩, z.2.2⟩⟩)
      have sb : puSt (b &&& o7.2.2.2.2.2.2.2.2.2.2.2.2.2.2.2.2.2.2.1 e) (fun s => s < n ∧ ti_a n G u e s) := puSt_c (puSt_and hbb (hb e he)) (fun i _ => ⟨fun z => ⟨z.1.1, z.1.2, z.2⟩, fun z => ⟨⟨z.1, z.2.1⟩, z.2.2⟩⟩)
      have ca := puN_le (ti_a n G t e) n
      have za : a &&& o7.2.2.2.2.2.2.2.2.2.2.2.2.2.2.2.2.2.2.1 e = 0 ↔ ¬ 0 < puN (ti_a n G t e) n := by
        rw [puSt_z sa, puN_pos]
        exact ⟨fun h ⟨k, hk, z⟩ => h k (by omega) ⟨hk, z⟩, fun h i _ z => h ⟨i, z.1, z.2⟩⟩
      have zb : b &&& o7.2.2.2.2.2.2.2.2.2.2.2.2.2.2.2.2.2.2.1 e = 0 ↔ ¬ 0 < puN (ti_a n G u e) n := by
        rw [puSt_z sb, puN_pos]
        exact ⟨fun h ⟨k, hk, z⟩ => h k (by omega) ⟨hk, z⟩, fun h i _ z => h ⟨i, z.1, z.2⟩⟩
      have eb2 : xsBr (puI t = puI u) (xsBd (fJ6_bitCount_0f7a4 (a &&& o7.2.2.2.2.2.2.2.2.2.2.2.2.2.2.2.2.2.2.1 e)) (fun o35 => xsBr (o35 ≤ 1) (some (0 : Int32)) (some (1 : Int32)))) (xsBr (a &&& o7.2.2.2.2.2.2.2.2.2.2.2.2.2.2.2.2.2.2.1 e = 0) (some (0 : Int32)) (xsBr (b &&& o7.2.2.2.2.2.2.2.2.2.2.2.2.2.2.2.2.2.2.1 e = 0) (some (0 : Int32)) (some (1 : Int32)))) = some (puB (cp C (ti_c n G t u) m)) := by
        rw [puB_iff (cp_at hC hc), xsBr_iff (puI_eq (by omega) (by omega) (by omega) (by omega)), p_kbits sa (fun i hi => by have := hi.1; omega), puSt_n sa (by omega), su_cnt hn, xsBd_sm]
        unfold ti_c
        by_cases c : t = u
        · rw [xsBr_pos c, show (1 : Int32) = puI ((1 : Nat) : Int) by rfl, xsBr_iff (puI_leN (by omega) (by omega))]
          by_cases d : puN (ti_a n G t e) n ≤ 1
          · rw [xsBr_pos d, puB_neg (fun z => z.elim (fun z => by omega) (fun z => z.1 c))]
          · rw [xsBr_neg d, puB_pos (Or.inl ⟨c, by omega⟩)]; rfl
        · rw [xsBr_neg c, xsBr_iff za]
          by_cases d : 0 < puN (ti_a n G t e) n
          · rw [xsBr_neg (fun z => z d), xsBr_iff zb]
            by_cases f : 0 < puN (ti_a n G u e) n
            · rw [xsBr_neg (fun z => z f), puB_pos (Or.inr ⟨c, d, f⟩)]
            · rw [xsBr_pos f, puB_neg (fun z => z.elim (fun z => c z.1) (fun z => f z.2.2))]
          · rw [xsBr_pos d, puB_neg (fun z => z.elim (fun z => c z.1) (fun z => d z.2.1))]
      simp only [fX10_tinted_L22]
      rw [pu_goz hnc hm (by omega), xsCk_in (by omega) (by omega) (by omega), puI_clN (by omega), q, xsCk_in (by omega) (by omega) (by omega), puI_clN (by omega), xsLt_eq, ea, xsBd_sm, xsLt_eq, eb, xsBd_sm, xsLt_eq, eb2, xsBd_sm]
      unfold fX10_tinted_J108
      by_cases c : cp C (ti_c n G t u) m
      · rw [pu_bt c, xsLt_eq, xsBd_sm]
        simp only [fX10_tinted_J118]
        rw [xsLt_eq, puI_s1, puI_s1]
        exact ⟨_, rfl, rfl, by dsimp only; rw [puN_y c]⟩
      · rw [pu_bf c, xsBd_sm]
        simp only [fX10_tinted_J118]
        rw [xsLt_eq, puI_s1]
        exact ⟨_, rfl, rfl, by dsimp only; rw [puN_n c]⟩
    · rintro ⟨y1, y2⟩ ⟨q1, q2⟩
      simp only at q1 q2
      subst q1; subst q2
      simp only [fX10_tinted_L22]
      rw [hnc, pu_out (by omega)]
      exact ⟨_, rfl, rfl⟩
  obtain ⟨r, er, rfl⟩ := key
  exact er
theorem p_mtin71 {n : Nat} {G : puG} {w : Nat → Int32} (hv : puVal n G) (hw : puMW n G w) {N : Nat} {C : Nat → Prop} {o6 : _} (hN : N ≤ 324) (hb : ∀ k, k < N → puSt (o6.2.2.2.2.2.2.2.2.2.2.2.2.1 k) (fun s => puO n G s k)) (heo : puEo C N o6.2.2.2.2.2.2.2.2.2.2.2.2.2.1) {t u : Int} (t1 : 0 ≤ t ∧ t ≤ 3) (u1 : 0 ≤ u ∧ u ≤ 3) {c e : Nat} (he : e < N) (hC : C e) (hc : puN C e = c) :
    puOk (xsWh (fun s15 => fX11_tinted_L71 w (puI t) (puI u) o6 (puI (c : Int)) s15.1 s15.2.1 s15.2.2) ((0 : Int32), (0 : Int32), (0 : Int32))) (fun r => r.1 = puI (puN (ti_a n G t e) n : Int) ∧ r.2 = puI (puN (ti_a n G u e) n : Int)) := by
  have hn := hv.1
  have cl := puN_le C e
  have q := heo e he hC
  rw [hc] at q
  refine puFor1 n (fun m z => z.2.2 = puI (m : Int) ∧ z.1 = puI (puN (ti_a n G t e) m : Int) ∧ z.2.1 = puI (puN (ti_a n G u e) m : Int)) _ ⟨rfl, rfl, rfl⟩ ?_ ?_
  · rintro m ⟨y1, y2, y3⟩ hm ⟨q1, q2, q3⟩
    simp only at q1 q2 q3
    subst q1; subst q2; subst q3
    have tb := (hv.2 m hm).2.1
    simp only [fX11_tinted_L71]
    rw [p_many hw, xsBd_sm, pu_go hm (by omega), xsCk_in (by omega) (by omega) (by omega), puI_clN (by omega), q, xsCk_in (by omega) (by omega) (by omega), puI_clN (by omega), pu_holds _ (by omega), puB_iff (hb e he m (by omega)), xsBd_sm]
    by_cases d : puO n G m e
    · rw [pu_bt d, p_of4 (by omega), xsBd_sm, (hw.2 m hm).2.2.2.2, xsBr_10, xsBd_sm, puB_iff (puI_eq (by omega) (by omega) (by omega) (by omega))]
      unfold fX11_tinted_J121
      rw [xsLt_eq, p_of4 (by omega), xsBd_sm, (hw.2 m hm).2.2.2.2, xsBr_10, xsBd_sm, puB_iff (puI_eq (by omega) (by omega) (by omega) (by omega))]
      unfold fX11_tinted_J142
      rw [xsLt_eq, xsBd_sm]
      simp only [fX11_tinted_J145]
      rw [xsLt_eq, puI_s1]
      refine ⟨_, rfl, rfl, ?_, ?_⟩
      · dsimp only
        by_cases z : (G m).2.2.2.2 = t
        · rw [puB_pos z, puI_s1, puN_y ⟨z, d⟩]
        · rw [puB_neg z, puI_a0, puN_n (fun y => z y.1)]
      · dsimp only
        by_cases z : (G m).2.2.2.2 = u
        · rw [puB_pos z, puI_s1, puN_y ⟨z, d⟩]
        · rw [puB_neg z, puI_a0, puN_n (fun y => z y.1)]
    · rw [pu_bf d, xsBd_sm]
      simp only [fX11_tinted_J145]
      rw [xsLt_eq, puI_s1]
      exact ⟨_, rfl, rfl, by dsimp only; rw [puN_n (fun y => d y.2)], by dsimp only; rw [puN_n (fun y => d y.2)]⟩
  · rintro ⟨y1, y2, y3⟩ ⟨q1, q2, q3⟩
    simp only at q1 q2 q3
    subst q1; subst q2; subst q3
    simp only [fX11_tinted_L71]
    rw [p_many hw, xsBd_sm, pu_out (by omega)]
    exact ⟨_, rfl, rfl, rfl⟩
theorem p_mtin53 {n : Nat} {G : puG} {w : Nat → Int32} (hv : puVal n G) (hw : puMW n G w) {N : Nat} {C : Nat → Prop} {o6 : _} (hN : N ≤ 324) (hb : ∀ k, k < N → puSt (o6.2.2.2.2.2.2.2.2.2.2.2.2.1 k) (fun s => puO n G s k)) (heo : puEo C N o6.2.2.2.2.2.2.2.2.2.2.2.2.2.1) (hnc : o6.2.2.2.2.2.2.2.2.2.2.2.2.2.2.2.2.2.1 = puI (puN C N : Int)) {t u : Int} (t1 : 0 ≤ t ∧ t ≤ 3) (u1 : 0 ≤ u ∧ u ≤ 3) :
    xsWh (fun s10 => fX11_tinted_L53 w (puI t) (puI u) o6 s10.1 s10.2) ((0 : Int32), (0 : Int32)) = some (puI (puN (cp C (ti_c n G t u)) (puN C N) : Int)) := by
  have hn := hv.1
  have cn := puN_le C N
  have key : puOk (xsWh (fun s10 => fX11_tinted_L53 w (puI t) (puI u) o6 s10.1 s10.2) ((0 : Int32), (0 : Int32))) (fun r => r = puI (puN (cp C (ti_c n G t u)) (puN C N) : Int)) := by
    refine puFor1 (puN C N) (fun m z => z.2 = puI (m : Int) ∧ z.1 = puI (puN (cp C (ti_c n G t u)) m : Int)) _ ⟨rfl, rfl⟩ ?_ ?_
    · rintro m ⟨y1, y2⟩ hm ⟨q1, q2⟩
      simp only at q1 q2
      subst q1; subst q2
      obtain ⟨e, he, hC, hc⟩ := puN_kth hm
      obtain ⟨r, er, hr1, hr2⟩ := p_mtin71 hv hw hN hb heo t1 u1 he hC hc
      have ca := puN_le (ti_a n G t e) n
      have cb := puN_le (ti_a n G u e) n
      simp only [fX11_tinted_L53]
      rw [pu_goz hnc hm (by omega), xsBd_some er]
      unfold fX11_tinted_J151
      have eb2 : xsBr (puI t = puI u) (xsBr (r.1 ≤ 1) (some (0 : Int32)) (some (1 : Int32))) (xsBr (r.1 ≤ 0) (some (0 : Int32)) (xsBr (r.2 ≤ 0) (some (0 : Int32)) (some (1 : Int32)))) = some (puB (cp C (ti_c n G t u) m)) := by
        rw [puB_iff (cp_at hC hc), xsBr_iff (puI_eq (by omega) (by omega) (by omega) (by omega)), hr1, hr2]
        unfold ti_c
        rw [show (1 : Int32) = puI ((1 : Nat) : Int) by rfl, show (0 : Int32) = puI ((0 : Nat) : Int) by rfl, xsBr_iff (puI_leN (a := puN (ti_a n G t e) n) (b := 1) (by omega) (by omega)), xsBr_iff (puI_leN (a := puN (ti_a n G t e) n) (b := 0) (by omega) (by omega)), xsBr_iff (puI_leN (a := puN (ti_a n G u e) n) (b := 0) (by omega) (by omega))]
        by_cases c : t = u
        · rw [xsBr_pos c]
          by_cases d : puN (ti_a n G t e) n ≤ 1
          · rw [xsBr_pos d, puB_neg (fun z => z.elim (fun z => by omega) (fun z => z.1 c))]; rfl
          · rw [xsBr_neg d, puB_pos (Or.inl ⟨c, by omega⟩)]; rfl
        · rw [xsBr_neg c]
          by_cases d : 0 < puN (ti_a n G t e) n
          · rw [xsBr_neg (by omega)]
            by_cases f : 0 < puN (ti_a n G u e) n
            · rw [xsBr_neg (by omega), puB_pos (Or.inr ⟨c, d, f⟩)]; rfl
            · rw [xsBr_pos (by omega), puB_neg (fun z => z.elim (fun z => c z.1) (fun z => f z.2.2))]; rfl
          · rw [xsBr_pos (by omega), puB_neg (fun z => z.elim (fun z => c z.1) (fun z => d z.2.1))]; rfl
      rw [eb2, xsBd_sm]
      simp only [fX11_tinted_J186]
      rw [xsLt_eq, xsLt_eq, puI_s1]
      refine ⟨_, rfl, rfl, ?_⟩
      dsimp only
      by_cases c : cp C (ti_c n G t u) m
      · rw [puB_pos c, puI_s1, puN_y c]
      · rw [puB_neg c, puI_a0, puN_n c]
    · rintro ⟨y1, y2⟩ ⟨q1, q2⟩
      simp only at q1 q2
      subst q1; subst q2
      simp only [fX11_tinted_L53]
      rw [hnc, pu_out (by omega)]
      exact ⟨_, rfl, rfl⟩
  obtain ⟨r, er, rfl⟩ := key
  exact er
theorem q_tinted : pc_tinted puRl := by
  intro kIsKept kIsStale hiLatest hiSize scLength scFault scAt scNumber piSegmentsNow enKind enFromX enFromY enToX enToY tiMeetingPairs tiAlongPairs tiSize evSize evCrossings evSegmentsNow grEdges grQueued huSize huBestX huBestY scBytes scTold tiTouching tiLyingAlong evBundle evCrossingOf evEventOf evLeftEvent evRightEvent grDegree grFar grQueue huX huY enX enY enLower evX evY evLower S mThrown mRemembered mHasImage mIsLaid mEvents mCrossings mEdges mTaped mPoint mEnd mBegin mFaultAt mActs mWorld mImage mDraft mEarlier mOne mTwo mShare mCrossingOf mBundle mEventOf mDegree mFrom mTo mMet mTape mFive mTold mFar mViews mHullX mHullY mEndX mEndY mMeets mMeetsOf mX mY mD mHeightUp mHeightLow mEventX mEventY mEventD mUpper mLower hR a0 a1
  obtain ⟨n, G, rw, ri, rh, rt, rk, rm⟩ := hR
  obtain ⟨i, rfl, i1, i2⟩ := puI_ex a0
  obtain ⟨j, rfl, j1, j2⟩ := puI_ex a1
  obtain ⟨w1, w2, w3⟩ := id rw
  have hn := w1.1
  unfold fX10_tinted fX11_tinted
  rw [w2.2.2, p_checkTint i1 i2, xsBd_sm, puI_l i1 i2, puI_l j1 j2, show (0 : Int64) = puJ 0 by rfl, show (3 : Int64) = puJ 3 by rfl, p_in (by omega) (by omega) (by omega), p_in (by omega) (by omega) (by omega), xsBd_sm, xsBd_sm, xsBr_10]
  have e2 : xsBr (puB (0 ≤ i ∧ i ≤ 3) = 0) (some (1 : Int32)) (some (puB (puB (0 ≤ j ∧ j ≤ 3) = 0))) = some (puB (¬ ((0 ≤ i ∧ i ≤ 3) ∧ (0 ≤ j ∧ j ≤ 3)))) := by
    by_cases c : 0 ≤ i ∧ i ≤ 3
    · rw [pu_bt c]
      refine congrArg some (puB_iff ?_)
      rw [puB_0]
      exact ⟨fun q z => q z.2, fun q z => q ⟨c, z⟩⟩
    · rw [pu_bf c, puB_pos (fun z => c z.1)]
  rw [e2, xsBd_sm]
  unfold fX11_tinted_J35
  rw [p_throwsIf, xsBd_sm]
  by_cases c0 : 0 ≤ i ∧ i ≤ 3
  case neg =>
    have c' : ¬ ((0 ≤ i ∧ i ≤ 3) ∧ (0 ≤ j ∧ j ≤ 3)) := fun q => c0 q.1
    rw [puCk_neg c0, puB_pos c', puE_pos c']
    simp only [xsTh]
    rw [xsBr_neg (by decide)]
    exact ⟨_, _, rfl, rfl, Or.inr ⟨_, _, rfl, rfl, rfl, n, G, rw, ri, rh, rt, rk, rm⟩⟩
  rw [puCk_pos c0]
  simp only [xsTh]
  rw [p_checkTint j1 j2, xsBd_sm]
  by_cases c1 : 0 ≤ j ∧ j ≤ 3
  case neg =>
    have c' : ¬ ((0 ≤ i ∧ i ≤ 3) ∧ (0 ≤ j ∧ j ≤ 3)) := fun q => c1 q.2
    rw [puCk_neg c1, puB_pos c', puE_pos c']
    simp only [xsTh]
    rw [xsBr_neg (by decide)]
    exact ⟨_, _, rfl, rfl, Or.inr ⟨_, _, rfl, rfl, rfl, n, G, rw, ri, rh, rt, rk, rm⟩⟩
  have c' : ¬ ¬ ((0 ≤ i ∧ i ≤ 3) ∧ (0 ≤ j ∧ j ≤ 3)) := fun q => q ⟨c0, c1⟩
  rw [puCk_pos c1, puB_neg c', puE_neg c']
  simp only [xsTh]
  obtain ⟨o, eo, o0, ho⟩ := p_drawn w1 w2.1 rk (k0 := enKind) (x0 := enX) (y0 := enY) (l0 := enLower) (f0 := enFromX) (f1 := enFromY) (f2 := enToX) (f3 := enToY)
  obtain ⟨v, ev, hv⟩ := p_lays w1 w3 rm (one := mOne) (two := mTwo) (sh := mShare) (x0 := mX) (y0 := mY) (d0 := mD)
  obtain ⟨⟨okp, gN⟩, -, -, -, -, gbu, ⟨-, geo, gnc⟩, -, -⟩ := id ho
  obtain ⟨v1, ⟨-, -⟩, -, vbu, ⟨-, veo, vnc⟩, -⟩ := id hv
  rw [xsBr_T, xsBd_some eo, xsBd_some ev, p_tin22 w1 w2.2.1 gN gbu geo gnc c0 c1, xsBd_sm, p_mtin53 w1 w3 gN vbu veo vnc c0 c1, xsBd_sm]
  simp only [fX10_tinted_J124, fX11_tinted_J194]
  exact ⟨_, _, rfl, rfl, Or.inl ⟨_, rfl, rfl, rfl, n, G, rw, ri, rh, rt, Or.inr ⟨o0, ho⟩, Or.inr hv⟩⟩

