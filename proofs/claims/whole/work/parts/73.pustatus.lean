/-! PURE: STATUS told, RANK told -/
theorem su_cnt {n : Nat} (hn : n ≤ 24) (A : Nat → Prop) : puN (fun s => s < n ∧ A s) 24 = puN A n := by
  rw [puN_out (m := n) hn (fun k h1 h2 q => by have := q.1; omega)]
  exact puN_c (fun k hk => ⟨fun q => q.2, fun q => ⟨hk, q⟩⟩)
theorem p_rank27 {n : Nat} {G : puG} {p : puP} {c s : Nat} {g : Nat → Nat} {o3 : _} {o5 : _} (hn : n ≤ 24) (h0 : o5.1 = puI (c : Int)) (hst : su_st G p n c o5.2.1 g) (hc : c ≤ 24) (hs : s < n) :
    puOk (xsWh (fun s8 => fX11_rank_L27 (puI (s : Int)) o3 o5 s8) (0 : Int32)) (fun r => (∃ j, j < c ∧ g j = s ∧ r = .inl (puI (j : Int), o3.2.1, o3.2.2.1, o3.2.2.2.1, o3.2.2.2.2.1, o3.2.2.2.2.2.1, o3.2.2.2.2.2.2.1, o3.2.2.2.2.2.2.2.1, o3.2.2.2.2.2.2.2.2.1, o3.2.2.2.2.2.2.2.2.2.1, o3.2.2.2.2.2.2.2.2.2.2.1, o3.2.2.2.2.2.2.2.2.2.2.2.1, o3.2.2.2.2.2.2.2.2.2.2.2.2.1, o3.2.2.2.2.2.2.2.2.2.2.2.2.2.1, o3.2.2.2.2.2.2.2.2.2.2.2.2.2.2.1, o3.2.2.2.2.2.2.2.2.2.2.2.2.2.2.2.1, o3.2.2.2.2.2.2.2.2.2.2.2.2.2.2.2.2.1, o3.2.2.2.2.2.2.2.2.2.2.2.2.2.2.2.2.2.1, o3.2.2.2.2.2.2.2.2.2.2.2.2.2.2.2.2.2.2.1, o3.2.2.2.2.2.2.2.2.2.2.2.2.2.2.2.2.2.2.2.1, o3.2.2.2.2.2.2.2.2.2.2.2.2.2.2.2.2.2.2.2.2, o5.2.1, o5.2.2.1, o5.2.2.2)) ∨ ((∀ j, j < c → g j ≠ s) ∧ r = .inr ())) := by
  refine puFor c (fun m z => z = puI (m : Int) ∧ ∀ j, j < m → g j ≠ s) _ ?_ ?_ 0 _ (Nat.zero_le _) ⟨rfl, fun j hj => by omega⟩
  · rintro m z hm ⟨rfl, h⟩
    obtain ⟨f1, f2, -⟩ := hst.1 m hm
    simp only [fX11_rank_L27]
    rw [h0, pu_go hm (by omega), xsCk_in (by omega) (by omega) (by omega), puI_clN (by omega), f1]
    by_cases e : g m = s
    · rw [xsBr_pos (by rw [e])]
      exact Or.inr ⟨_, rfl, Or.inl ⟨m, hm, e, rfl⟩⟩
    · rw [xsBr_neg (by rw [puI_eqN (by omega) (by omega)]; exact e), xsLt_eq, puI_s1]
      refine Or.inl ⟨_, rfl, rfl, fun j hj => ?_⟩
      by_cases q : j = m
      · subst q; exact e
      · exact h j (by omega)
  · rintro z ⟨rfl, h⟩
    simp only [fX11_rank_L27]
    rw [h0, pu_out (by omega)]
    exact ⟨_, rfl, Or.inr ⟨h, rfl⟩⟩
theorem q_rank : pc_rank puRl := by
  intro kIsKept kIsStale hiLatest hiSize scLength scFault scAt scNumber piSegmentsNow enKind enFromX enFromY enToX enToY tiMeetingPairs tiAlongPairs tiSize evSize evCrossings evSegmentsNow grEdges grQueued huSize huBestX huBestY scBytes scTold tiTouching tiLyingAlong evBundle evCrossingOf evEventOf evLeftEvent evRightEvent grDegree grFar grQueue huX huY enX enY enLower evX evY evLower S mThrown mRemembered mHasImage mIsLaid mEvents mCrossings mEdges mTaped mPoint mEnd mBegin mFaultAt mActs mWorld mImage mDraft mEarlier mOne mTwo mShare mCrossingOf mBundle mEventOf mDegree mFrom mTo mMet mTape mFive mTold mFar mViews mHullX mHullY mEndX mEndY mMeets mMeetsOf mX mY mD mHeightUp mHeightLow mEventX mEventY mEventD mUpper mLower hR a0 a1
  obtain ⟨n, G, rw, ri, rh, rt, rk, rm⟩ := hR
  obtain ⟨i, rfl, i1, i2⟩ := puI_ex a0
  obtain ⟨k, rfl, k1, k2⟩ := puI_ex a1
  obtain ⟨w1, w2, w3⟩ := id rw
  have hn := w1.1
  unfold fX10_rank fX11_rank
  rw [w2.2.2, p_checkSegment i1 i2 (by omega), p_noSegment hn w3 i1 i2, xsBd_sm, xsBd_sm]
  by_cases c0 : 0 ≤ i ∧ i < (n : Int)
  case neg =>
    rw [puCk_neg c0, puB_pos c0, puE_pos c0]
    simp only [xsTh]
    rw [xsBr_neg (by decide)]
    exact ⟨_, _, rfl, rfl, Or.inr ⟨_, _, rfl, rfl, rfl, n, G, rw, ri, rh, rt, rk, rm⟩⟩
  rw [puCk_pos c0, puB_neg (fun q => q c0), puE_neg (fun q => q c0)]
  simp only [xsTh]
  obtain ⟨o, eo, o0, ho⟩ := p_drawn w1 w2.1 rk (k0 := enKind) (x0 := enX) (y0 := enY) (l0 := enLower) (f0 := enFromX) (f1 := enFromY) (f2 := enToX) (f3 := enToY)
  obtain ⟨v, hv, ev⟩ := p_noEvent w1 w3 rm (th := (0 : Int32)) (one := mOne) (two := mTwo) (sh := mShare) (x0 := mX) (y0 := mY) (d0 := mD) k1 k2
  rw [xsBr_T, xsBd_some eo, ev, xsBd_sm]
  obtain ⟨⟨okp, gN⟩, ⟨-, gtn, gsn⟩, -, -, ⟨gev, gsz⟩, -, -, gen, -⟩ := id ho
  obtain ⟨v1, ⟨-, -⟩, ⟨vev, -⟩, -⟩ := id hv
  have pcn := p_checkPlace (k := k) (m := (puCan n G).1) k1 k2 (by omega)
  rw [← gsz] at pcn
  rw [pcn]
  simp only [xsBd_sm]
  by_cases c1 : 0 ≤ k ∧ k < ((puCan n G).1 : Int)
  case neg =>
    rw [puCk_neg c1, puB_pos c1, puE_pos c1]
    simp only [xsTh]
    rw [xsBr_neg (by decide)]
    exact ⟨_, _, rfl, rfl, Or.inr ⟨_, _, rfl, rfl, rfl, n, G, rw, ri, rh, rt, Or.inr ⟨o0, ho⟩, Or.inr hv⟩⟩
  rw [puCk_pos c1, puB_neg (fun q => q c1), puE_neg (fun q => q c1)]
  simp only [xsTh]
  rw [xsBr_T]
  obtain ⟨e, rfl, he⟩ : ∃ e : Nat, k = (e : Int) ∧ e < (puCan n G).1 := ⟨k.toNat, by omega, by omega⟩
  obtain ⟨s, rfl, hs⟩ : ∃ s : Nat, i = (s : Int) ∧ s < n := ⟨i.toNat, by omega, by omega⟩
  obtain ⟨al, eal, hal⟩ := p_alive hn okp.2 gN gen he gsn
  obtain ⟨om, eom, om0, g, hst⟩ := p_mstatus w1 w3 vev gN he (met := mMet) (up := mUpper) (lo := mLower)
  have cl := puN_le (fun s => su_al (G s) ((puCan n G).2 e)) n
  rw [eal, xsBd_sm, pu_has _ (by omega), puB_iff ((hal s (by omega)).trans ⟨fun q => q.2, fun q => ⟨hs, q⟩⟩), xsBd_sm, xsBd_some eom]
  obtain ⟨r, er, hr⟩ := p_rank27 (o3 := ((0 : Int32), (0 : Int32), v)) hn om0 hst (by omega) hs
  rw [xsBd_some er]
  by_cases ca : su_al (G s) ((puCan n G).2 e)
  · rw [pu_bt ca, p_rankS w1 w2.1 gev okp.2 gN gen hs he ca gsn, xsBd_sm]
    obtain ⟨j0, hj0, ej0⟩ := hst.2.2 s hs ca
    rcases hr with ⟨j, hj, ej, rfl⟩ | ⟨h, -⟩
    · simp only [xsSm]
      rw [← ej, su_rank hst hj]
      exact ⟨_, _, rfl, rfl, Or.inl ⟨_, rfl, rfl, rfl, n, G, rw, ri, rh, rt, Or.inr ⟨o0, ho⟩, Or.inr hv⟩⟩
    · exact absurd ej0 (h j0 hj0)
  · rw [pu_bf ca]
    rcases hr with ⟨j, hj, ej, rfl⟩ | ⟨h, rfl⟩
    · exact absurd (by rw [← ej]; exact (hst.1 j hj).2.2) ca
    · simp only [xsSm, fX11_rank_J53]
      exact ⟨_, _, rfl, rfl, Or.inl ⟨_, rfl, rfl, rfl, n, G, rw, ri, rh, rt, Or.inr ⟨o0, ho⟩, Or.inr hv⟩⟩

theorem p_status37 {n : Nat} {G : puG} {lx ly rx ry : Nat → Int32} (hv : puVal n G) (hk : puKW n G lx ly rx ry) {N : Nat} {P : Nat → puP} {o1 : _} (he : puEvs N P o1.2.2.2.2.2.2.2.2.2.2.2.2.2.2.2.1 o1.2.2.2.2.2.2.2.2.2.2.2.2.2.2.2.2.1 o1.2.2.2.2.2.2.2.2.2.2.2.2.2.2.2.2.2.1) (hE : puEvt n G N P) (hN : N ≤ 324) (hle : puEnd n G N P o1.2.2.2.2.2.2.2.2.2.2.2.2.2.2.2.2.2.2.2.2.2.1 o1.2.2.2.2.2.2.2.2.2.2.2.2.2.2.2.2.2.2.2.2.2.2.1) (hsn : o1.2.2.2.2.2.2.2.2.2.2.2.2.2.2.2.2.2.2.2.2.2.2.2.2.2.1 = puI (n : Int)) {k : Nat} (hkN : k < N) {al : Int32} (hal : puSt al (fun s => s < n ∧ su_al (G s) (P k))) {i : Int} (i1 : -2147483648 ≤ i) (i2 : i ≤ 2147483647) {c : Nat} {f : Nat → Int32} {g : Nat → Nat} (hst : su_st G (P k) n c f g) :
    puOk (xsWh (fun s9 => fX10_status_L37 lx ly rx ry (puI (n : Int)) (puI (k : Int)) (puI i) o1 al s9) (0 : Int32)) (fun r => (∃ j : Nat, j < c ∧ i = (j : Int) ∧ r = .inl (.inl (puI (g j : Int), o1.1, o1.2.1, o1.2.2.1, o1.2.2.2.1, o1.2.2.2.2.1, o1.2.2.2.2.2.1, o1.2.2.2.2.2.2.1, o1.2.2.2.2.2.2.2.1, o1.2.2.2.2.2.2.2.2.1, o1.2.2.2.2.2.2.2.2.2.1, o1.2.2.2.2.2.2.2.2.2.2.1, o1.2.2.2.2.2.2.2.2.2.2.2.1, o1.2.2.2.2.2.2.2.2.2.2.2.2.1, o1.2.2.2.2.2.2.2.2.2.2.2.2.2.1, o1.2.2.2.2.2.2.2.2.2.2.2.2.2.2.1, o1.2.2.2.2.2.2.2.2.2.2.2.2.2.2.2.1, o1.2.2.2.2.2.2.2.2.2.2.2.2.2.2.2.2.1, o1.2.2.2.2.2.2.2.2.2.2.2.2.2.2.2.2.2.1, o1.2.2.2.2.2.2.2.2.2.2.2.2.2.2.2.2.2.2.1, o1.2.2.2.2.2.2.2.2.2.2.2.2.2.2.2.2.2.2.2.1, o1.2.2.2.2.2.2.2.2.2.2.2.2.2.2.2.2.2.2.2.2.1, o1.2.2.2.2.2.2.2.2.2.2.2.2.2.2.2.2.2.2.2.2.2.1, o1.2.2.2.2.2.2.2.2.2.2.2.2.2.2.2.2.2.2.2.2.2.2.1, o1.2.2.2.2.2.2.2.2.2.2.2.2.2.2.2.2.2.2.2.2.2.2.2.1, o1.2.2.2.2.2.2.2.2.2.2.2.2.2.2.2.2.2.2.2.2.2.2.2.2.1, o1.2.2.2.2.2.2.2.2.2.2.2.2.2.2.2.2.2.2.2.2.2.2.2.2.2.1, o1.2.2.2.2.2.2.2.2.2.2.2.2.2.2.2.2.2.2.2.2.2.2.2.2.2.2.1, o1.2.2.2.2.2.2.2.2.2.2.2.2.2.2.2.2.2.2.2.2.2.2.2.2.2.2.2))) ∨ (¬ (0 ≤ i ∧ i < (c : Int)) ∧ r = .inr ())) := by
  have hn := hv.1
  refine puFor n (fun m z => z = puI (m : Int) ∧ ∀ s, s < m → su_al (G s) (P k) → (su_rk n G (P k) s : Int) ≠ i) _ ?_ ?_ 0 _ (Nat.zero_le _) ⟨rfl, fun j hj => by omega⟩
  · rintro m z hm ⟨rfl, h⟩
    simp only [fX10_status_L37]
    rw [pu_go hm (by omega), pu_has _ (by omega), puB_iff ((hal m (by omega)).trans ⟨fun q => q.2, fun q => ⟨hm, q⟩⟩), xsBd_sm]
    have rl : su_rk n G (P k) m ≤ n := puN_le _ _
    by_cases ca : su_al (G m) (P k)
    case neg =>
      rw [pu_bf ca, xsLt_eq, puI_s1]
      refine Or.inl ⟨_, rfl, rfl, fun s hs ha => ?_⟩
      by_cases q : s = m
      · subst q; exact absurd ha ca
      · exact h s (by omega) ha
    rw [pu_bt ca, p_rankS hv hk he hE hN hle hm hkN ca hsn, xsBd_sm]
    by_cases e : (su_rk n G (P k) m : Int) = i
    · rw [xsBr_pos (by rw [e])]
      obtain ⟨j, hj, ej⟩ := hst.2.2 m hm ca
      have ej2 := su_rank hst hj
      rw [ej] at ej2
      exact Or.inr ⟨_, rfl, Or.inl ⟨j, hj, by omega, by rw [ej]⟩⟩
    · rw [xsBr_neg (by rw [puI_eq (by omega) (by omega) (by omega) (by omega)]; exact e), xsLt_eq, puI_s1]
      refine Or.inl ⟨_, rfl, rfl, fun s hs ha => ?_⟩
      by_cases q : s = m
      · subst q; exact e
      · exact h s (by omega) ha
  · rintro z ⟨rfl, h⟩
    simp only [fX10_status_L37]
    rw [pu_out (by omega)]
    refine ⟨_, rfl, Or.inr ⟨fun q => ?_, rfl⟩⟩
    have hj : i.toNat < c := by omega
    have ej2 := su_rank hst hj
    exact h (g i.toNat) (hst.1 _ hj).2.1 (hst.1 _ hj).2.2 (by omega)
theorem q_status : pc_status puRl := by
  intro kIsKept kIsStale hiLatest hiSize scLength scFault scAt scNumber piSegmentsNow enKind enFromX enFromY enToX enToY tiMeetingPairs tiAlongPairs tiSize evSize evCrossings evSegmentsNow grEdges grQueued huSize huBestX huBestY scBytes scTold tiTouching tiLyingAlong evBundle evCrossingOf evEventOf evLeftEvent evRightEvent grDegree grFar grQueue huX huY enX enY enLower evX evY evLower S mThrown mRemembered mHasImage mIsLaid mEvents mCrossings mEdges mTaped mPoint mEnd mBegin mFaultAt mActs mWorld mImage mDraft mEarlier mOne mTwo mShare mCrossingOf mBundle mEventOf mDegree mFrom mTo mMet mTape mFive mTold mFar mViews mHullX mHullY mEndX mEndY mMeets mMeetsOf mX mY mD mHeightUp mHeightLow mEventX mEventY mEventD mUpper mLower hR a0 a1
  obtain ⟨n, G, rw, ri, rh, rt, rk, rm⟩ := hR
  obtain ⟨k, rfl, k1, k2⟩ := puI_ex a0
  obtain ⟨i, rfl, i1, i2⟩ := puI_ex a1
  obtain ⟨w1, w2, w3⟩ := id rw
  have hn := w1.1
  obtain ⟨o, eo, o0, ho⟩ := p_drawn w1 w2.1 rk (k0 := enKind) (x0 := enX) (y0 := enY) (l0 := enLower) (f0 := enFromX) (f1 := enFromY) (f2 := enToX) (f3 := enToY)
  obtain ⟨v, hv, ev⟩ := p_noEvent w1 w3 rm (th := mThrown) (one := mOne) (two := mTwo) (sh := mShare) (x0 := mX) (y0 := mY) (d0 := mD) k1 k2
  unfold fX10_status fX11_status
  rw [w2.2.2, xsBd_some eo, ev, xsBd_sm]
  obtain ⟨⟨okp, gN⟩, ⟨-, gtn, gsn⟩, -, -, ⟨gev, gsz⟩, -, -, gen, -⟩ := id ho
  obtain ⟨v1, ⟨-, -⟩, ⟨vev, -⟩, -⟩ := id hv
  have pcn := p_checkPlace (k := k) (m := (puCan n G).1) k1 k2 (by omega)
  rw [← gsz] at pcn
  rw [pcn]
  simp only [xsBd_sm]
  by_cases c1 : 0 ≤ k ∧ k < ((puCan n G).1 : Int)
  case neg =>
    rw [puCk_neg c1, puB_pos c1, puE_pos c1]
    simp only [xsTh]
    rw [xsBr_neg (by decide)]
    exact ⟨_, _, rfl, rfl, Or.inr ⟨_, _, rfl, rfl, rfl, n, G, rw, ri, rh, rt, Or.inr ⟨o0, ho⟩, Or.inr hv⟩⟩
  rw [puCk_pos c1, puB_neg (fun q => q c1), puE_neg (fun q => q c1)]
  simp only [xsTh]
  rw [xsBr_T]
  obtain ⟨e, rfl, he⟩ : ∃ e : Nat, k = (e : Int) ∧ e < (puCan n G).1 := ⟨k.toNat, by omega, by omega⟩
  obtain ⟨al, eal, hal⟩ := p_alive hn okp.2 gN gen he gsn
  obtain ⟨om, eom, om0, g, hst⟩ := p_mstatus w1 w3 vev gN he (met := mMet) (up := mUpper) (lo := mLower)
  have cl := puN_le (fun s => su_al (G s) ((puCan n G).2 e)) n
  rw [eal, xsBd_sm, xsBd_some eom, show (-1 : Int32) = puI (-1) by rfl]
  by_cases c2 : i = -1
  · rw [xsBr_pos (by rw [c2]), xsBr_pos (by rw [c2]), p_kbits hal (fun i hi => by have := hi.1; omega), puSt_n hal (by omega), su_cnt hn, om0, xsBd_sm]
    exact ⟨_, _, rfl, rfl, Or.inl ⟨_, rfl, rfl, rfl, n, G, rw, ri, rh, rt, Or.inr ⟨o0, ho⟩, Or.inr hv⟩⟩
  have n2 : ¬ puI i = puI (-1) := by rw [puI_eq (by omega) (by omega) (by omega) (by omega)]; exact c2
  obtain ⟨r, er, hr⟩ := p_status37 (o1 := o) w1 w2.1 gev okp.2 gN gen gsn he hal i1 i2 hst
  rw [xsBr_neg n2, xsBr_neg n2, xsBd_some er, om0, show (1 : Int32) = puI 1 by rfl, puI_sub, puI_l i1 i2, puI_l (by omega) (by omega), show (0 : Int64) = puJ 0 by rfl, p_in (by omega) (by omega) (by omega), xsBd_sm]
  rcases hr with ⟨j, hj, rfl, rfl⟩ | ⟨h, rfl⟩
  · obtain ⟨f1, f2, -⟩ := hst.1 j hj
    rw [pu_bt (by omega), xsCk_in (by omega) (by omega) (by omega), puI_clN (by omega), f1]
    simp only [xsSm]
    exact ⟨_, _, rfl, rfl, Or.inl ⟨_, rfl, rfl, rfl, n, G, rw, ri, rh, rt, Or.inr ⟨o0, ho⟩, Or.inr hv⟩⟩
  · rw [pu_bf (by omega)]
    simp only [xsSm, fX10_status_J83]
    exact ⟨_, _, rfl, rfl, Or.inl ⟨_, rfl, rfl, rfl, n, G, rw, ri, rh, rt, Or.inr ⟨o0, ho⟩, Or.inr hv⟩⟩

