/-! PURE: ACTS told -/
theorem p_actsX {by0 : Nat → Int32} {L : Nat} {a c fa at0 nu : Int32} {tc : Nat → Int32} {v : xsV} : xsWh (fun s19 => fX6_read_L44 by0 (puI (L : Int)) s19.1 s19.2.1 s19.2.2.1 s19.2.2.2.1 s19.2.2.2.2.1 s19.2.2.2.2.2.1 s19.2.2.2.2.2.2.1 s19.2.2.2.2.2.2.2.1 s19.2.2.2.2.2.2.2.2.1 s19.2.2.2.2.2.2.2.2.2.1 s19.2.2.2.2.2.2.2.2.2.2.1 s19.2.2.2.2.2.2.2.2.2.2.2.1 s19.2.2.2.2.2.2.2.2.2.2.2.2) (a, (0 : Int32), c, tc, fa, at0, nu, v) = some (a, tc, fa, at0, nu, v) := by
  refine xsWh_exit ?_
  show fX6_read_L44 by0 (puI (L : Int)) a 0 c tc fa at0 nu v.1 v.2.1 v.2.2.1 v.2.2.2.1 v.2.2.2.2.1 v.2.2.2.2.2 = _
  unfold fX6_read_L44
  by_cases h : (14 : Int32) < c
  · rw [xsBr_pos h]
  · rw [xsBr_neg h, xsBr_pos rfl]
def ac_out (tp : Nat → Int32) (L : Nat) (rc : Int32 × (Nat → Int32) × Int32 × Int32 × Int32 × xsV) (mo : Int32 × (Nat → Int32) × Int32 × Int32 × Int32 × (Nat → Int32) × Int32) : Prop := (rc.2.2.1 = -1 ∧ mo.1 = 1 ∧ mo.2.2.2.2.2.2 = rc.1 ∧ ∃ (n' : Nat) (G' : puG), ac_R n' G' rc.2.2.2.2.2 mo.2.1) ∨ (mo.1 = 0 ∧ ∃ k : Nat, k ≤ L ∧ rc.2.2.1 = puI (k : Int) ∧ mo.2.2.2.2.1 = puI (k : Int))
theorem p_acts {by0 tp : Nat → Int32} {L : Nat} (hL : L ≤ 400) (hb : ∀ i, i < L → by0 i = tp i) : ∀ f m : Nat, m + f = 14 → ∀ (n : Nat) (G : puG) (v : xsV) (w tc tm : Nat → Int32) (nu bg ld : Int32) (p : Nat), p ≤ L → ac_R n G v w → ∃ rc rm mo, xsWh (fun s19 => fX6_read_L44 by0 (puI (L : Int)) s19.1 s19.2.1 s19.2.2.1 s19.2.2.2.1 s19.2.2.2.2.1 s19.2.2.2.2.2.1 s19.2.2.2.2.2.2.1 s19.2.2.2.2.2.2.2.1 s19.2.2.2.2.2.2.2.2.1 s19.2.2.2.2.2.2.2.2.2.1 s19.2.2.2.2.2.2.2.2.2.2.1 s19.2.2.2.2.2.2.2.2.2.2.2.1 s19.2.2.2.2.2.2.2.2.2.2.2.2) (puI (m : Int), (1 : Int32), puI (m : Int), tc, (-1 : Int32), puI (p : Int), nu, v) = some rc ∧ xsWh (fun s9 => fX11_readActs_L22 tp (puI (L : Int)) s9.1 s9.2.1 s9.2.2.1 s9.2.2.2.1 s9.2.2.2.2.1 s9.2.2.2.2.2) (w, ld, puI (p : Int), bg, tm, puI (m : Int)) = some rm ∧ xsSm rm (fun v9 => fX11_readActs_J31 tp (puI (L : Int)) v9.1 v9.2.1 v9.2.2.1 v9.2.2.2.1 v9.2.2.2.2.1 v9.2.2.2.2.2) = some mo ∧ ac_out tp L rc mo := by
  intro f
  induction f with
  | zero =>
    intro m hm n G v w tc tm nu bg ld p hp hR
    obtain rfl : m = 14 := by omega
    have hs : ac_s tp L p ≤ L := (ac_spec hp).2.1
    have e1 : fX6_read_L44 by0 (puI (L : Int)) (puI ((14 : Nat) : Int)) 1 (puI ((14 : Nat) : Int)) tc (-1) (puI (p : Int)) nu v.1 v.2.1 v.2.2.1 v.2.2.2.1 v.2.2.2.2.1 v.2.2.2.2.2 = some (.inl (puI ((15 : Nat) : Int), (0 : Int32), puI ((15 : Nat) : Int), tc, puI (ac_s tp L p : Int), puI (ac_s tp L p : Int), nu, v)) := by
      unfold fX6_read_L44 fX6_refuse
      rw [xsBr_neg (by decide), xsBr_neg (by decide), p_skip hL hb hp, xsBd_sm, xsBr_pos (by decide), xsBd_sm, xsBd_sm]
      unfold fX6_read_J96
      rw [xsLt_eq, xsLt_eq, puI_s1]
    have e2 : fX11_readActs_L22 tp (puI (L : Int)) w ld (puI (p : Int)) bg tm (puI ((14 : Nat) : Int)) = some (.inr (.inr (w, ld, puI (p : Int), bg, tm, puI ((14 : Nat) : Int)))) := by
      unfold fX11_readActs_L22
      rw [xsBr_pos (show puI ((14 : Nat) : Int) = (14 : Int32) from rfl)]
    have e3 : xsSm (Sum.inr (w, ld, puI (p : Int), bg, tm, puI ((14 : Nat) : Int)) : (Int32 × (Nat → Int32) × Int32 × Int32 × Int32 × (Nat → Int32) × Int32) ⊕ _) (fun v9 => fX11_readActs_J31 tp (puI (L : Int)) v9.1 v9.2.1 v9.2.2.1 v9.2.2.2.1 v9.2.2.2.2.1 v9.2.2.2.2.2) = some ((0 : Int32), w, ld, puI (ac_l tp L (ac_s tp L p) : Int), puI (ac_s tp L p : Int), tm, puI ((14 : Nat) : Int)) := by
      simp only [xsSm]
      unfold fX11_readActs_J31
      rw [p_letters hL hp, xsBd_sm]
    exact ⟨_, _, _, xsWh_back e1 p_actsX, xsWh_exit e2, e3, Or.inr ⟨rfl, ac_s tp L p, hs, rfl, rfl⟩⟩
  | succ f ih =>
    intro m hm n G v w tc tm nu bg ld p hp hR
    obtain ⟨oc, om, ec, em, ho⟩ := p_act hL hb hp hR (tc := tc) (tm := tm) (nu := nu) (bg := bg) (ld := ld)
    have hs : ac_s tp L p ≤ L := (ac_spec hp).2.1
    have l14 : ¬ (14 : Int32) ≤ puI (m : Int) := by rw [show (14 : Int32) = puI ((14 : Nat) : Int) by rfl, puI_leN (by omega) (by omega)]; omega
    have g14 : ¬ (14 : Int32) < puI (m : Int) := by rw [show (14 : Int32) = puI ((14 : Nat) : Int) by rfl, puI_ltN (by omega) (by omega)]; omega
    have q14 : ¬ puI (m : Int) = (14 : Int32) := by rw [show (14 : Int32) = puI ((14 : Nat) : Int) by rfl, puI_eqN (by omega) (by omega)]; omega
    have n10 : ¬ (1 : Int32) = 0 := by decide
    rcases ho with ⟨z1, z2, z3, q, n', G', hq, z4, z5, z6⟩ | ⟨z1, z2, k, hk, z3, z4⟩
    case inr =>
      have e1 : fX6_read_L44 by0 (puI (L : Int)) (puI (m : Int)) 1 (puI (m : Int)) tc (-1) (puI (p : Int)) nu v.1 v.2.1 v.2.2.1 v.2.2.2.1 v.2.2.2.2.1 v.2.2.2.2.2 = some (.inl (puI ((m + 1 : Nat) : Int), (0 : Int32), puI ((m + 1 : Nat) : Int), oc.2)) := by
        unfold fX6_read_L44
        rw [xsBr_neg g14, xsBr_neg n10, p_skip hL hb hp, xsBd_sm, xsBr_neg l14, xsBd_some ec, xsBr_pos z1, xsBd_sm]
        unfold fX6_read_J96
        rw [xsLt_eq, xsLt_eq, puI_s1]
      have e2 : fX11_readActs_L22 tp (puI (L : Int)) w ld (puI (p : Int)) bg tm (puI (m : Int)) = some (.inr (.inl ((0 : Int32), om.2.1, om.2.2.1, om.2.2.2.1, om.2.2.2.2.1, om.2.2.2.2.2, puI (m : Int)))) := by
        unfold fX11_readActs_L22
        rw [xsBr_neg q14, xsBd_some em, xsBr_pos z2]
      exact ⟨_, _, _, xsWh_back e1 (p_actsX (tc := oc.2.1) (fa := oc.2.2.1) (at0 := oc.2.2.2.1) (nu := oc.2.2.2.2.1) (v := oc.2.2.2.2.2)), xsWh_exit e2, rfl, Or.inr ⟨rfl, k, hk, z3, z4⟩⟩
    have hs2 : ac_s tp L q ≤ L := (ac_spec hq).2.1
    -- the break
    have e1 : ∀ (g : Int32) (fa at0 : Int32), fX6_readBreak by0 (puI (L : Int)) (-1) (puI (q : Int)) = some (g, fa, at0) → (g = 0 ∨ g = 1) → fX6_read_L44 by0 (puI (L : Int)) (puI (m : Int)) 1 (puI (m : Int)) tc (-1) (puI (p : Int)) nu v.1 v.2.1 v.2.2.1 v.2.2.2.1 v.2.2.2.2.1 v.2.2.2.2.2 = some (.inl (puI ((m + 1 : Nat) : Int), g, puI ((m + 1 : Nat) : Int), oc.2.1, fa, at0, oc.2.2.2.2.1, oc.2.2.2.2.2)) := by
      intro g fa at0 hbr hg
      unfold fX6_read_L44
      rw [xsBr_neg g14, xsBr_neg n10, p_skip hL hb hp, xsBd_sm, xsBr_neg l14, xsBd_some ec, xsBr_neg (by rw [z1]; decide), z3, z4, xsBd_some hbr]
      dsimp only
      rcases hg with rfl | rfl
      · rw [xsBr_pos rfl, xsBd_sm]
        unfold fX6_read_J96
        rw [xsLt_eq, xsLt_eq, puI_s1]
      · rw [xsBr_neg n10, xsBd_sm]
        unfold fX6_read_J96
        rw [xsLt_eq, xsLt_eq, puI_s1]
    by_cases c : ac_s tp L q = L
    · -- the text ends
      have br : fX6_readBreak by0 (puI (L : Int)) (-1) (puI (q : Int)) = some (0, -1, puI (ac_s tp L q : Int)) := by
        unfold fX6_readBreak
        rw [p_skip hL hb hq, xsBd_sm, xsBr_neg (fun y => by rw [puI_ltN (by omega) (by omega)] at y; omega)]
      have e2 : fX11_readActs_L22 tp (puI (L : Int)) w ld (puI (p : Int)) bg tm (puI (m : Int)) = some (.inr (.inl ((1 : Int32), om.2.1, om.2.2.1, puI (ac_s tp L q : Int), puI (ac_s tp L q : Int), om.2.2.2.2.2, puI ((m + 1 : Nat) : Int)))) := by
        unfold fX11_readActs_L22
        rw [xsBr_neg q14, xsBd_some em, xsBr_neg (by rw [z2]; decide), xsLt_eq, z5, p_blanks hL hq, xsBd_sm, xsBr_pos (by rw [c]), puI_s1]
      exact ⟨_, _, _, xsWh_back (e1 0 _ _ br (Or.inl rfl)) p_actsX, xsWh_exit e2, rfl, Or.inl ⟨rfl, rfl, rfl, n', G', z6⟩⟩
    by_cases d : tp (ac_s tp L q) = 59
    case neg =>
      have br : fX6_readBreak by0 (puI (L : Int)) (-1) (puI (q : Int)) = some (0, puI (ac_s tp L q : Int), puI (ac_s tp L q : Int)) := by
        unfold fX6_readBreak fX6_refuse
        rw [p_skip hL hb hq, xsBd_sm, xsBr_pos ((puI_ltN (by omega) (by omega)).mpr (by omega)), xsCk_in (by omega) (by omega) (by omega), puI_clN (by omega), hb _ (by omega), xsBr_neg d, xsBd_sm, xsCk_pos xsB_0]
      have e2 : fX11_readActs_L22 tp (puI (L : Int)) w ld (puI (p : Int)) bg tm (puI (m : Int)) = some (.inr (.inl ((0 : Int32), om.2.1, om.2.2.1, puI (ac_s tp L q : Int), puI (ac_s tp L q : Int), om.2.2.2.2.2, puI ((m + 1 : Nat) : Int)))) := by
        unfold fX11_readActs_L22
        rw [xsBr_neg q14, xsBd_some em, xsBr_neg (by rw [z2]; decide), xsLt_eq, z5, p_blanks hL hq, xsBd_sm, xsBr_neg (fun y => c ((puI_eqN (by omega) (by omega)).mp y)), p_isAt hL (by omega), xsBd_sm, pu_bf (fun y => d (ac_P1.mp y.2)), puI_s1]
      exact ⟨_, _, _, xsWh_back (e1 0 _ _ br (Or.inl rfl)) p_actsX, xsWh_exit e2, rfl, Or.inr ⟨rfl, _, hs2, rfl, rfl⟩⟩
    have br : fX6_readBreak by0 (puI (L : Int)) (-1) (puI (q : Int)) = some (1, -1, puI ((ac_s tp L q + 1 : Nat) : Int)) := by
      unfold fX6_readBreak
      rw [p_skip hL hb hq, xsBd_sm, xsBr_pos ((puI_ltN (by omega) (by omega)).mpr (by omega)), xsCk_in (by omega) (by omega) (by omega), puI_clN (by omega), hb _ (by omega), xsBr_pos d, xsLt_eq, puI_s1]
    have e2 : fX11_readActs_L22 tp (puI (L : Int)) w ld (puI (p : Int)) bg tm (puI (m : Int)) = some (.inl (om.2.1, om.2.2.1, puI ((ac_s tp L q + 1 : Nat) : Int), puI (ac_s tp L q : Int), om.2.2.2.2.2, puI ((m + 1 : Nat) : Int))) := by
      unfold fX11_readActs_L22
      rw [xsBr_neg q14, xsBd_some em, xsBr_neg (by rw [z2]; decide), xsLt_eq, z5, p_blanks hL hq, xsBd_sm, xsBr_neg (fun y => c ((puI_eqN (by omega) (by omega)).mp y)), p_isAt hL (by omega), xsBd_sm, pu_bt ⟨by omega, ac_P1.mpr d⟩, xsLt_eq, puI_s1, puI_s1]
    obtain ⟨rc, rm, mo, h1, h2, h3, h4⟩ := ih (m + 1) (by omega) n' G' oc.2.2.2.2.2 om.2.1 oc.2.1 om.2.2.2.2.2 oc.2.2.2.2.1 (puI (ac_s tp L q : Int)) om.2.2.1 (ac_s tp L q + 1) (by omega) z6
    exact ⟨rc, rm, mo, xsWh_back (e1 1 _ _ br (Or.inr rfl)) h1, xsWh_back e2 h2, h3, h4⟩
theorem p_read {by0 tp : Nat → Int32} {L : Nat} (hL : L ≤ 400) (hb : ∀ i, i < L → by0 i = tp i) {n : Nat} {G : puG} {v v' : xsV} {w tc tm : Nat → Int32} (hR : ac_R n G v w) {fa at0 nu bg ld ac : Int32} : ∃ oc mo, fX6_read by0 tc (puI (L : Int)) fa at0 nu v.1 v.2.1 v.2.2.1 v.2.2.2.1 v.2.2.2.2.1 v.2.2.2.2.2 v'.1 v'.2.1 v'.2.2.1 v'.2.2.2.1 v'.2.2.2.2.1 v'.2.2.2.2.2 = some oc ∧ fX11_readActs w ld tp 0 (puI (L : Int)) bg tm ac = some mo ∧ oc.2.2.1 = 0 ∧ ac_out tp L (oc.1, oc.2.1, oc.2.2.2) mo := by
  obtain ⟨w1, w2, w3⟩ := hR
  obtain ⟨o, eo, ho⟩ := p_copyFrom w1.1 w2 (lx := v'.1) (ly := v'.2.1) (rx := v'.2.2.1) (ry := v'.2.2.2.1) (ti := v'.2.2.2.2.1) (sz := v'.2.2.2.2.2)
  have hs : ac_s tp L 0 ≤ L := (ac_spec (Nat.zero_le _)).2.1
  have sk : fX6_skipBlanks by0 (puI (L : Int)) 0 = some (puI (ac_s tp L 0 : Int)) := p_skip (p := 0) hL hb (Nat.zero_le _)
  have bl : fX11_blanks tp 0 (puI (L : Int)) bg = some (puI (ac_s tp L 0 : Int), puI (ac_s tp L 0 : Int)) := p_blanks (p := 0) hL (Nat.zero_le _)
  unfold fX6_read fX11_readActs
  rw [xsBd_some eo, sk, bl, xsBd_sm, xsBd_sm]
  by_cases c : ac_s tp L 0 = L
  · rw [xsBr_pos ((puI_leN (by omega) (by omega)).mpr (by omega)), xsBd_sm, xsBr_pos (by rw [c])]
    unfold fX6_read_J40
    rw [xsBd_some (p_actsX (v := (o.1, o.2.1, o.2.2.1, o.2.2.2.1, o.2.2.2.2.1, o.2.2.2.2.2)))]
    exact ⟨_, _, rfl, rfl, rfl, Or.inl ⟨rfl, rfl, rfl, n, G, w1, ho, w3⟩⟩
  · obtain ⟨rc, rm, mo, h1, h2, h3, h4⟩ := p_acts hL hb 14 0 rfl n G o w tc tm nu (puI (ac_s tp L 0 : Int)) ld (ac_s tp L 0) hs ⟨w1, ho, w3⟩
    rw [xsBr_neg (fun y => by rw [puI_leN (by omega) (by omega)] at y; omega), xsBd_sm, xsBr_neg (fun y => c ((puI_eqN (by omega) (by omega)).mp y))]
    unfold fX6_read_J40
    have h1' : xsWh (fun s19 => fX6_read_L44 by0 (puI (L : Int)) s19.1 s19.2.1 s19.2.2.1 s19.2.2.2.1 s19.2.2.2.2.1 s19.2.2.2.2.2.1 s19.2.2.2.2.2.2.1 s19.2.2.2.2.2.2.2.1 s19.2.2.2.2.2.2.2.2.1 s19.2.2.2.2.2.2.2.2.2.1 s19.2.2.2.2.2.2.2.2.2.2.1 s19.2.2.2.2.2.2.2.2.2.2.2.1 s19.2.2.2.2.2.2.2.2.2.2.2.2) ((0 : Int32), (1 : Int32), (0 : Int32), tc, (-1 : Int32), puI (ac_s tp L 0 : Int), nu, o.1, o.2.1, o.2.2.1, o.2.2.2.1, o.2.2.2.2.1, o.2.2.2.2.2) = some rc := h1
    have h2' : xsWh (fun s9 => fX11_readActs_L22 tp (puI (L : Int)) s9.1 s9.2.1 s9.2.2.1 s9.2.2.2.1 s9.2.2.2.2.1 s9.2.2.2.2.2) (w, ld, puI (ac_s tp L 0 : Int), puI (ac_s tp L 0 : Int), tm, (0 : Int32)) = some rm := h2
    dsimp only
    rw [xsBd_some h1', xsBd_some h2', h3]
    exact ⟨_, _, rfl, rfl, rfl, h4⟩
theorem p_copies_v5 {f g : Nat → Int32} {a c : Nat} (ha : a + 121 ≤ 121) (hc : c + 121 ≤ 121) : puOk (fX11_copies_v5 f g (puI (a : Int)) (puI (c : Int))) (fun o => puCpy f g o a c) := p_copies_v3 ha hc
theorem p_copies_v6 {f g : Nat → Int32} {a c : Nat} (ha : a + 121 ≤ 121) (hc : c + 121 ≤ 121) : puOk (fX11_copies_v6 g f (puI (a : Int)) (puI (c : Int))) (fun o => puCpy f g o a c) := p_copies_v3 ha hc
theorem q_acts : pc_acts puRl := by
  intro kIsKept kIsStale hiLatest hiSize scLength scFault scAt scNumber piSegmentsNow enKind enFromX enFromY enToX enToY tiMeetingPairs tiAlongPairs tiSize evSize evCrossings evSegmentsNow grEdges grQueued huSize huBestX huBestY scBytes scTold tiTouching tiLyingAlong evBundle evCrossingOf evEventOf evLeftEvent evRightEvent grDegree grFar grQueue huX huY enX enY enLower evX evY evLower S mThrown mRemembered mHasImage mIsLaid mEvents mCrossings mEdges mTaped mPoint mEnd mBegin mFaultAt mActs mWorld mImage mDraft mEarlier mOne mTwo mShare mCrossingOf mBundle mEventOf mDegree mFrom mTo mMet mTape mFive mTold mFar mViews mHullX mHullY mEndX mEndY mMeets mMeetsOf mX mY mD mHeightUp mHeightLow mEventX mEventY mEventD mUpper mLower hR
  obtain ⟨n, G, rw, ri, rh, rt, rk, rm⟩ := hR
  obtain ⟨w1, w2, w3⟩ := id rw
  have hn := w1.1
  obtain ⟨L, hL, rfl, rfl, hb, hf⟩ := id rt
  obtain ⟨d, ed, hd⟩ := p_copies_v5 (f := mWorld) (g := mDraft) (a := 0) (c := 0) (by omega) (by omega)
  have ed' : fX11_copies_v5 mWorld mDraft (0 : Int32) (0 : Int32) = some d := ed
  have hD : puMW n G d := puMW_0.mp (puMW_cpy hn hd (puMW_0.mpr w3))
  obtain ⟨oc, mo, ec, em, z0, ho⟩ := p_read (v := S 0) (v' := S 3) hL hb rw (tc := scTold) (tm := mTold) (fa := scFault) (at0 := scAt) (nu := scNumber) (bg := mBegin) (ld := mIsLaid) (ac := mActs)
  unfold fX10_acts fX11_acts
  rw [xsBd_some ec, xsBd_some ed', xsBd_some em]
  rcases ho with ⟨y1, y2, y3, n', G', y4, y5, y6⟩ | ⟨y1, k, hk, y2, y3⟩
  · simp only at y1 y2 y3 y4 y5 y6
    obtain ⟨o, eo, ho1, ho2⟩ := p_become y4.1 y5 (st := kIsStale) (lx := (S 0).1) (ly := (S 0).2.1) (rx := (S 0).2.2.1) (ry := (S 0).2.2.2.1) (ti := (S 0).2.2.2.2.1) (sz := (S 0).2.2.2.2.2)
    unfold fX3_forget
    rw [xsBr_pos y1, xsBd_sm, xsBd_some eo, y2, xsBr_neg (by decide), xsBd_sm]
    unfold fX11_acts_J59
    rw [y2, xsBr_neg (by decide), xsBd_sm]
    unfold fX11_acts_J72
    rw [show fX11_throwsIf 0 0 1 = some ((0 : Int32), (0 : Int32)) by rw [show (0 : Int32) = puB False by exact (puB_neg (fun q => q)).symm, p_throwsIf, puE_neg (fun q => q)], xsBd_sm, xsBr_pos rfl]
    obtain ⟨h, l, h1, h2, h3, h4, h5, h6⟩ := id rh
    refine ⟨_, _, rfl, rfl, Or.inl ⟨_, rfl, y3.symm, rfl, n', G', ?_, ?_, ⟨0, l, by omega, h2, h3, rfl, rfl, fun i hi => by omega⟩, ⟨0, by omega, z0, rfl, fun i hi => by omega, y1⟩, Or.inl ho1, Or.inl rfl⟩⟩
    · rw [xsSu_ne (by decide), xsSu_eq]
      exact ⟨y4, ho2, y6⟩
    · rw [xsSu_ne (by decide), xsSu_ne (by decide)]
      exact ri
  · simp only at y1 y2 y3
    obtain ⟨g, eg, hg⟩ := p_copies_v6 (f := d) (g := mo.2.1) (a := 0) (c := 0) (by omega) (by omega)
    have eg' : fX11_copies_v6 mo.2.1 d (0 : Int32) (0 : Int32) = some g := eg
    have hG : puMW n G g := puMW_0.mp (puMW_cpy hn hg (puMW_0.mpr hD))
    rw [xsBr_neg (by rw [y2]; exact fun q => by rw [show (-1 : Int32) = puI (-1) by rfl, puI_eq (by omega) (by omega) (by omega) (by omega)] at q; omega), y1, xsBr_pos rfl, xsBd_sm]
    unfold fX11_acts_J59
    rw [y1, xsBr_pos rfl, xsBd_sm]
    unfold fX11_acts_J72
    rw [show fX11_throwsIf 0 1 1 = some ((1 : Int32), (1 : Int32)) by unfold fX11_throwsIf; rw [xsBr_neg (by decide), xsCk_pos xsB_1], xsBd_sm, xsBr_neg (by decide), xsBd_some eg']
    refine ⟨_, _, rfl, rfl, Or.inr ⟨_, _, rfl, rfl, rfl, n, G, ?_, ?_, puRh_S rh (fun i hi => ?_), ⟨0, by omega, z0, rfl, fun i hi => by omega, y2.trans y3.symm⟩, rk, Or.inl rfl⟩⟩
    · rw [xsSu_ne (by decide), xsSu_eq]
      exact ⟨w1, w2, hG⟩
    · rw [xsSu_ne (by decide), xsSu_ne (by decide)]
      exact ri
    · rw [xsSu_ne (by omega), xsSu_ne (by omega)]

