/-! THE CLAIM OUT OF ONE WALK OF THE LAW'S BODY. Your part is whole_start (and what it stands on); all else here is the same for every law, but numbers. -/
def R_law : String := "CrossingSweepLaw"
def lw_P (b : Addr) (xs : List Int32) (args : Array Value) (s : State) : Prop := args = #[.ref b] ∧ s.IntsAt b xs ∧ xs.length ≤ 3072 ∧ (Jvm.Cond.and given_1 narrow_1).before args s = true
def lw_Q (_ : Array Value) (s : State) (o : Outcome) (t : State) : Prop := o = .returned (some (.int 1)) ∧ Framed s o t [] 601024 7293034
def lw_Z (below : List Frame) (a : Array Value) (s : State) : State → Prop := fun t => ∃ o, t.status = .running ∧ Ended t below o ∧ lw_Q a s o t
/-- the law's own end, with 1 on the stack, nothing written that was there before, its room as the claim has it -/
theorem lw_ret {p : Program} {l : Launch} {e : Env} {s : State} {m : MethodId} {below : List Frame} {meth : Method} {c : Code} {b : Nat} (hx : p.tables.exec = Jvm.exec) (hb : c.code = code) (hr : meth.sig.returnType = ret) (hlocks : meth.locks = false) {pc : Nat} {H : Heap} {ls : Array Slot} (hdg : decode code pc = .ok (.ireturn, 1)) : W p l e room_1 s m #[Value.ref b] below meth c H [] 601024 7293034 (lw_Z below #[Value.ref b] s) (F0 m pc ls [.int 1]) := by
  intro T hT X
  obtain ⟨fs, hret, hrun, hended, hW, hframe⟩ := X.leave (v := some (.int 1)) (hlocks := hlocks) (fun h => by rw [hr] at h; cases h)
  have hmeth' : T.vm.method? m = some meth := X.method'
  refine ⟨T.setFrames fs, ?_, .returned (some (.int 1)), hrun, hended, rfl, ⟨_, rfl⟩, hW, hframe⟩
  jvm_step X.here [X.here.top, hx, hb, hdg, hmeth', hr, ret, narrow_b1]
  (try refine ⟨rfl, ?_⟩); (try refine ⟨rfl, ?_⟩)
  first | (intro acts; rw [hret _ acts rfl rfl rfl]) | rw [hret _ _ rfl rfl rfl]
  exact Steps.refl _
/-- what holds at the law's entry: the machine, the code, the tables' words (any of lw_tbl by 'hts w (by decide +kernel)'), the script of L ints xs at the cell b, what the Statement gives of the start (any of its parts by flat_of_before) -/
def lw_At (p : Program) (s : State) (m : MethodId) (meth : Method) (c : Code) (b L : Nat) (xs : Nat → Int32) : Prop :=
  p.tables.exec = Jvm.exec ∧ c.code = code ∧ meth.sig.returnType = ret ∧ c.maxLocals = 8 ∧ s.vm.findClass R_law = some m.cls ∧ (∀ w ∈ lw_tbl, w.before #[Value.ref b] s = true) ∧ va_X b L xs s s.heap ∧ b < s.heap.size ∧ meth.locks = false ∧ (Jvm.Cond.and given_1 narrow_1).before #[Value.ref b] s = true

section XSLB
variable {p : Program} {l : Launch} {e : Env} {R : Room} {s : State} {m : MethodId} {args : Array Value} {below : List Frame} {meth : Method} {c : Code} {H : Heap} {locs : List Loc} {cells slots mc ms C0 D0 b L nL nM n pc index : Nat} {Q : State → Prop} {xs : Nat → Int32}
variable {cc bb : ByteArray} {ls : Array Slot} {rest st As : List Value} {own : String} {X : xsX} {w : va_W} {y : MethodName} {rm : Room} {Qc : Array Value → State → Outcome → State → Prop} {XC : String → State → State → Prop} {S : Nat → xsV} {Rw : va_W}
variable {kIsKept kIsStale hiLatest hiSize scLength scFault scAt scNumber piSegmentsNow enKind enFromX enFromY enToX enToY tiMeetingPairs tiAlongPairs tiSize evSize evCrossings evSegmentsNow grEdges grQueued huSize huBestX huBestY : Int32} {scBytes scTold tiTouching tiLyingAlong evBundle evCrossingOf evEventOf evLeftEvent evRightEvent grDegree grFar grQueue huX huY : Nat → Int32} {enX enY enLower : Int64} {evX evY evLower : Nat → Int64} {mThrown mRemembered mHasImage mIsLaid mEvents mCrossings mEdges mTaped mPoint mEnd mBegin mFaultAt mActs : Int32} {mWorld mImage mDraft mEarlier mOne mTwo mShare mCrossingOf mBundle mEventOf mDegree mFrom mTo mMet mTape mFive mTold mFar mViews mHullX mHullY mEndX mEndY mMeets mMeetsOf : Nat → Int32} {mX mY mD mHeightUp mHeightLow : Int64} {mEventX mEventY mEventD mUpper mLower : Nat → Int64} {ou : Nat → Int64}
def xsAll (Rl : xsRel) : Prop := pc_feed Rl ∧ pc_end Rl ∧ pc_acts Rl ∧ pc_fault Rl ∧ pc_add Rl ∧ pc_cut Rl ∧ pc_move Rl ∧ pc_tint Rl ∧ pc_turn Rl ∧ pc_undo Rl ∧ pc_segment Rl ∧ pc_how Rl ∧ pc_meet Rl ∧ pc_along Rl ∧ pc_crossing Rl ∧ pc_event Rl ∧ pc_status Rl ∧ pc_rank Rl ∧ pc_road Rl ∧ pc_view Rl ∧ pc_tied Rl ∧ pc_steps Rl ∧ pc_hull Rl ∧ pc_on Rl ∧ pc_at Rl ∧ pc_next Rl ∧ pc_over Rl ∧ pc_sight Rl ∧ pc_box Rl ∧ pc_tinted Rl ∧ pc_image Rl ∧ pc_back Rl ∧ pc_count Rl
set_option maxHeartbeats 8000000 in
theorem law_exit (C : xsC p s m c cL_law #[.ref b] RL 8 X) (hr : meth.sig.returnType = ret) (hlk : meth.locks = false) (hS : va_S (xsF X) s.heap H locs) (hz : xsZ X = s.heap.size) {c0 d0 : Nat} (h1 : c0 ≤ 601024) (h2 : d0 ≤ 7293034) : W p l e room_1 s m #[.ref b] below meth c H locs c0 d0 (lw_Z below #[.ref b] s) (F0 m 2181 ls []) := by
  have hx := C.1
  have hb := C.2.1
  refine lv_iconst (v := 1) hx hb dL_law_2181 (by decide) ?_
  refine va_forget (fun q hq => ?_) ?_
  · have := hS.2.2 q hq
    unfold xsF at this
    rw [hz] at this; exact this
  refine W.widen (k := 601024) (n := 7293034) h1 h2 ?_
  exact lw_ret hx hb hr hlk dL_law_2182
set_option maxRecDepth 100000 in
set_option maxHeartbeats 8000000 in
theorem law_loop {Rl : xsRel} (hall : xsAll Rl) (hst : l.stackTraces = false) (C : xsC p s m c cL_law #[.ref b] RL 8 X) (hr : meth.sig.returnType = ret) (hlk : meth.locks = false) (hX : va_X b L xs s s.heap) (hz : xsZ X = s.heap.size) (hbl : b < s.heap.size) (hL : L ≤ 3072) {c0 d0 : Nat} (hc0 : c0 ≤ 10000) (hd0 : d0 ≤ 100000) :
    ∀ (n t : Nat), L + 6 ≤ 6 * t + 6 * n → 6 * t ≤ 3072 → ∀ {kIsKept kIsStale hiLatest hiSize scLength scFault scAt scNumber piSegmentsNow enKind enFromX enFromY enToX enToY tiMeetingPairs tiAlongPairs tiSize evSize evCrossings evSegmentsNow grEdges grQueued huSize huBestX huBestY : Int32} {scBytes scTold tiTouching tiLyingAlong evBundle evCrossingOf evEventOf evLeftEvent evRightEvent grDegree grFar grQueue huX huY : Nat → Int32} {enX enY enLower : Int64} {evX evY evLower : Nat → Int64} {S : Nat → xsV} {mThrown mRemembered mHasImage mIsLaid mEvents mCrossings mEdges mTaped mPoint mEnd mBegin mFaultAt mActs : Int32} {mWorld mImage mDraft mEarlier mOne mTwo mShare mCrossingOf mBundle mEventOf mDegree mFrom mTo mMet mTape mFive mTold mFar mViews mHullX mHullY mEndX mEndY mMeets mMeetsOf : Nat → Int32} {mX mY mD mHeightUp mHeightLow : Int64} {mEventX mEventY mEventD mUpper mLower : Nat → Int64} {ou : Nat → Int64} {ls : Array Slot} {H : Heap} {locs : List Loc}, Rl kIsKept kIsStale hiLatest hiSize scBytes scTold scLength scFault scAt scNumber piSegmentsNow enKind enX enY enLower enFromX enFromY enToX enToY tiTouching tiLyingAlong tiMeetingPairs tiAlongPairs tiSize evX evY evLower evBundle evCrossingOf evEventOf evLeftEvent evRightEvent evSize evCrossings evSegmentsNow grDegree grEdges grFar grQueue grQueued huX huY huSize huBestX huBestY S mThrown mWorld mImage mDraft mEarlier mRemembered mHasImage mIsLaid mOne mTwo mShare mX mY mD mEventX mEventY mEventD mEvents mCrossingOf mBundle mEventOf mDegree mFrom mTo mCrossings mEdges mMet mUpper mLower mTape mTaped mPoint mEnd mBegin mFaultAt mFive mTold mActs mFar mViews mHullX mHullY mEndX mEndY mHeightUp mHeightLow mMeets mMeetsOf → va_P (xsD X) vwCl (wK X kIsKept kIsStale hiLatest hiSize scBytes scTold scLength scFault scAt scNumber piSegmentsNow enKind enX enY enLower enFromX enFromY enToX enToY tiTouching tiLyingAlong tiMeetingPairs tiAlongPairs tiSize evX evY evLower evBundle evCrossingOf evEventOf evLeftEvent evRightEvent evSize evCrossings evSegmentsNow grDegree grEdges grFar grQueue grQueued huX huY huSize huBestX huBestY S (xsOc X ou :: wM X mThrown mWorld mImage mDraft mEarlier mRemembered mHasImage mIsLaid mOne mTwo mShare mX mY mD mEventX mEventY mEventD mEvents mCrossingOf mBundle mEventOf mDegree mFrom mTo mCrossings mEdges mMet mUpper mLower mTape mTaped mPoint mEnd mBegin mFaultAt mFive mTold mActs mFar mViews mHullX mHullY mEndX mEndY mHeightUp mHeightLow mMeets mMeetsOf [])) H → va_D (xsF X) (wK X kIsKept kIsStale hiLatest hiSize scBytes scTold scLength scFault scAt scNumber piSegmentsNow enKind enX enY enLower enFromX enFromY enToX enToY tiTouching tiLyingAlong tiMeetingPairs tiAlongPairs tiSize evX evY evLower evBundle evCrossingOf evEventOf evLeftEvent evRightEvent evSize evCrossings evSegmentsNow grDegree grEdges grFar grQueue grQueued huX huY huSize huBestX huBestY S (xsOc X ou :: wM X mThrown mWorld mImage mDraft mEarlier mRemembered mHasImage mIsLaid mOne mTwo mShare mX mY mD mEventX mEventY mEventD mEvents mCrossingOf mBundle mEventOf mDegree mFrom mTo mCrossings mEdges mMet mUpper mLower mTape mTaped mPoint mEnd mBegin mFaultAt mFive mTold mActs mFar mViews mHullX mHullY mEndX mEndY mHeightUp mHeightLow mMeets mMeetsOf [])) → va_S (xsF X) s.heap H locs → lv_has ls 8 [(4, .int (nI (6 * t))), (3, .ref (xsA X 131)), (2, .ref (xsA X 100)), (1, .ref (xsA X 0)), (0, .ref b)] → W p l e room_1 s m #[.ref b] below meth c H locs (c0 + 5 * t) (d0 + 30 * t) (lw_Z below #[.ref b] s) (F0 m 23 ls []) := by
  have hx := C.1
  have hb := C.2.1
  have hbz : b < xsZ X := by rw [hz]; exact hbl
  intro n
  induction n with
  | zero =>
    intro t h1 h2 kIsKept kIsStale hiLatest hiSize scLength scFault scAt scNumber piSegmentsNow enKind enFromX enFromY enToX enToY tiMeetingPairs tiAlongPairs tiSize evSize evCrossings evSegmentsNow grEdges grQueued huSize huBestX huBestY scBytes scTold tiTouching tiLyingAlong evBundle evCrossingOf evEventOf evLeftEvent evRightEvent grDegree grFar grQueue huX huY enX enY enLower evX evY evLower S mThrown mRemembered mHasImage mIsLaid mEvents mCrossings mEdges mTaped mPoint mEnd mBegin mFaultAt mActs mWorld mImage mDraft mEarlier mOne mTwo mShare mCrossingOf mBundle mEventOf mDegree mFrom mTo mMet mTape mFive mTold mFar mViews mHullX mHullY mEndX mEndY mMeets mMeetsOf mX mY mD mHeightUp mHeightLow mEventX mEventY mEventD mUpper mLower ou ls H locs hR hP hD hS hl
    refine lv_iload hx hb dL_law_23 (lv_at hl 0 rfl) ?_
    refine lv_aload_n hx hb dL_law_25 rfl (lv_at hl 4 rfl) ?_
    refine va_slen hx hb hX hbl (Nat.not_le.mpr hbz) hS dL_law_26 ?_
    refine lv_bipush (v := 6) hx hb dL_law_27 (by decide) ?_
    refine lv_isub hx hb dL_law_29 ?_
    have hlt : (Int32.ofNat L - 6 < nI (6 * t)) := by
      show nI L - 6 < nI (6 * t)
      rw [puI_nI, puI_nI, show (6 : Int32) = puI 6 by rfl, puI_sub, puI_lt (by omega) (by omega) (by omega) (by omega)]; omega
    refine lv_icmp_gt (tgt := 2181) hx hb dL_law_30 (by decide) (fun _ => ?_) (fun q => absurd hlt q)
    exact law_exit C hr hlk hS hz (by omega) (by omega)
  | succ n ih =>
    intro t h1 h2 kIsKept kIsStale hiLatest hiSize scLength scFault scAt scNumber piSegmentsNow enKind enFromX enFromY enToX enToY tiMeetingPairs tiAlongPairs tiSize evSize evCrossings evSegmentsNow grEdges grQueued huSize huBestX huBestY scBytes scTold tiTouching tiLyingAlong evBundle evCrossingOf evEventOf evLeftEvent evRightEvent grDegree grFar grQueue huX huY enX enY enLower evX evY evLower S mThrown mRemembered mHasImage mIsLaid mEvents mCrossings mEdges mTaped mPoint mEnd mBegin mFaultAt mActs mWorld mImage mDraft mEarlier mOne mTwo mShare mCrossingOf mBundle mEventOf mDegree mFrom mTo mMet mTape mFive mTold mFar mViews mHullX mHullY mEndX mEndY mMeets mMeetsOf mX mY mD mHeightUp mHeightLow mEventX mEventY mEventD mUpper mLower ou ls H locs hR hP hD hS hl
    refine lv_iload hx hb dL_law_23 (lv_at hl 0 rfl) ?_
    refine lv_aload_n hx hb dL_law_25 rfl (lv_at hl 4 rfl) ?_
    refine va_slen hx hb hX hbl (Nat.not_le.mpr hbz) hS dL_law_26 ?_
    refine lv_bipush (v := 6) hx hb dL_law_27 (by decide) ?_
    refine lv_isub hx hb dL_law_29 ?_
    have hiff : (Int32.ofNat L - 6 < nI (6 * t)) ↔ L < 6 * t + 6 := by
      show nI L - 6 < nI (6 * t) ↔ _
      rw [puI_nI, puI_nI, show (6 : Int32) = puI 6 by rfl, puI_sub, puI_lt (by omega) (by omega) (by omega) (by omega)]; omega
    refine lv_icmp_gt (tgt := 2181) hx hb dL_law_30 (by decide) (fun _ => ?_) (fun hlt => ?_)
    · exact law_exit C hr hlk hS hz (by omega) (by omega)
    have hin : 6 * t + 6 ≤ L := Nat.not_lt.mp (fun q => hlt (hiff.mpr q))
    refine lv_aload_n hx hb dL_law_33 rfl (lv_at hl 4 rfl) ?_
    refine lv_iload hx hb dL_law_34 (lv_at hl 0 rfl) ?_
    refine va_sld hx hb hX hbl (Nat.not_le.mpr hbz) hS (vp_in_nI (n := 6 * t) (by omega) (by omega)) dL_law_36 ?_
    refine lv_bipush (v := 63) hx hb dL_law_37 (by decide) ?_
    refine lv_iand hx hb dL_law_39 ?_
    generalize xs (nI (6 * t)).toNatClampNeg &&& 63 = y
    have hik : ∀ k : Nat, k < 6 → vp_in (nI (6 * t) + nI k) L ∧ xs (nI (6 * t) + nI k).toNatClampNeg = xs (6 * t + k) := fun k hk => by
      rw [nI_add]
      exact ⟨vp_in_nI (by omega) (by omega), by rw [nI_clamp (by omega)]⟩
    have hi1 := hik 1 (by decide)
    have hi2 := hik 2 (by decide)
    have hi3 := hik 3 (by decide)
    have hi4 := hik 4 (by decide)
    have hi5 := hik 5 (by decide)
    have hcs : xsRmC (c0 + 5 * t) (d0 + 30 * t) := ⟨by omega, by omega⟩
    have tail : ∀ {kIsKept kIsStale hiLatest hiSize scLength scFault scAt scNumber piSegmentsNow enKind enFromX enFromY enToX enToY tiMeetingPairs tiAlongPairs tiSize evSize evCrossings evSegmentsNow grEdges grQueued huSize huBestX huBestY : Int32} {scBytes scTold tiTouching tiLyingAlong evBundle evCrossingOf evEventOf evLeftEvent evRightEvent grDegree grFar grQueue huX huY : Nat → Int32} {enX enY enLower : Int64} {evX evY evLower : Nat → Int64} {S : Nat → xsV} {mThrown mRemembered mHasImage mIsLaid mEvents mCrossings mEdges mTaped mPoint mEnd mBegin mFaultAt mActs : Int32} {mWorld mImage mDraft mEarlier mOne mTwo mShare mCrossingOf mBundle mEventOf mDegree mFrom mTo mMet mTape mFive mTold mFar mViews mHullX mHullY mEndX mEndY mMeets mMeetsOf : Nat → Int32} {mX mY mD mHeightUp mHeightLow : Int64} {mEventX mEventY mEventD mUpper mLower : Nat → Int64} {ou : Nat → Int64} {ls : Array Slot} {H : Heap} {locs : List Loc}, Rl kIsKept kIsStale hiLatest hiSize scBytes scTold scLength scFault scAt scNumber piSegmentsNow enKind enX enY enLower enFromX enFromY enToX enToY tiTouching tiLyingAlong tiMeetingPairs tiAlongPairs tiSize evX evY evLower evBundle evCrossingOf evEventOf evLeftEvent evRightEvent evSize evCrossings evSegmentsNow grDegree grEdges grFar grQueue grQueued huX huY huSize huBestX huBestY S mThrown mWorld mImage mDraft mEarlier mRemembered mHasImage mIsLaid mOne mTwo mShare mX mY mD mEventX mEventY mEventD mEvents mCrossingOf mBundle mEventOf mDegree mFrom mTo mCrossings mEdges mMet mUpper mLower mTape mTaped mPoint mEnd mBegin mFaultAt mFive mTold mActs mFar mViews mHullX mHullY mEndX mEndY mHeightUp mHeightLow mMeets mMeetsOf → va_P (xsD X) vwCl (wK X kIsKept kIsStale hiLatest hiSize scBytes scTold scLength scFault scAt scNumber piSegmentsNow enKind enX enY enLower enFromX enFromY enToX enToY tiTouching tiLyingAlong tiMeetingPairs tiAlongPairs tiSize evX evY evLower evBundle evCrossingOf evEventOf evLeftEvent evRightEvent evSize evCrossings evSegmentsNow grDegree grEdges grFar grQueue grQueued huX huY huSize huBestX huBestY S (xsOc X ou :: wM X mThrown mWorld mImage mDraft mEarlier mRemembered mHasImage mIsLaid mOne mTwo mShare mX mY mD mEventX mEventY mEventD mEvents mCrossingOf mBundle mEventOf mDegree mFrom mTo mCrossings mEdges mMet mUpper mLower mTape mTaped mPoint mEnd mBegin mFaultAt mFive mTold mActs mFar mViews mHullX mHullY mEndX mEndY mHeightUp mHeightLow mMeets mMeetsOf [])) H → va_D (xsF X) (wK X kIsKept kIsStale hiLatest hiSize scBytes scTold scLength scFault scAt scNumber piSegmentsNow enKind enX enY enLower enFromX enFromY enToX enToY tiTouching tiLyingAlong tiMeetingPairs tiAlongPairs tiSize evX evY evLower evBundle evCrossingOf evEventOf evLeftEvent evRightEvent evSize evCrossings evSegmentsNow grDegree grEdges grFar grQueue grQueued huX huY huSize huBestX huBestY S (xsOc X ou :: wM X mThrown mWorld mImage mDraft mEarlier mRemembered mHasImage mIsLaid mOne mTwo mShare mX mY mD mEventX mEventY mEventD mEvents mCrossingOf mBundle mEventOf mDegree mFrom mTo mCrossings mEdges mMet mUpper mLower mTape mTaped mPoint mEnd mBegin mFaultAt mFive mTold mActs mFar mViews mHullX mHullY mEndX mEndY mHeightUp mHeightLow mMeets mMeetsOf [])) → va_S (xsF X) s.heap H locs → lv_has ls 8 [(4, .int (nI (6 * t))), (3, .ref (xsA X 131)), (2, .ref (xsA X 100)), (1, .ref (xsA X 0)), (0, .ref b)] → W p l e room_1 s m #[.ref b] below meth c H locs (c0 + 5 * t + 5) (d0 + 30 * t + 30) (lw_Z below #[.ref b] s) (F0 m 2175 ls []) := by
      intro kIsKept kIsStale hiLatest hiSize scLength scFault scAt scNumber piSegmentsNow enKind enFromX enFromY enToX enToY tiMeetingPairs tiAlongPairs tiSize evSize evCrossings evSegmentsNow grEdges grQueued huSize huBestX huBestY scBytes scTold tiTouching tiLyingAlong evBundle evCrossingOf evEventOf evLeftEvent evRightEvent grDegree grFar grQueue huX huY enX enY enLower evX evY evLower S mThrown mRemembered mHasImage mIsLaid mEvents mCrossings mEdges mTaped mPoint mEnd mBegin mFaultAt mActs mWorld mImage mDraft mEarlier mOne mTwo mShare mCrossingOf mBundle mEventOf mDegree mFrom mTo mMet mTape mFive mTold mFar mViews mHullX mHullY mEndX mEndY mMeets mMeetsOf mX mY mD mHeightUp mHeightLow mEventX mEventY mEventD mUpper mLower ou ls H locs hR hP hD hS hl
      refine lv_iinc (v := nI (6 * (t + 1))) (lv' := [(4, .int (nI (6 * (t + 1)))), (3, .ref (xsA X 131)), (2, .ref (xsA X 100)), (1, .ref (xsA X 0)), (0, .ref b)]) hx hb dL_law_2175 hl (k := 0) rfl (by show nI (6 * t) + nI 6 = _; rw [nI_add]; rfl) (by decide) rfl (fun ls hl => ?_)
      refine lv_goto (tgt := 23) hx hb dL_law_2178 (by decide) ?_
      have k := ih (t + 1) (by omega) (by omega) hR hP hD hS hl
      rw [show c0 + 5 * (t + 1) = c0 + 5 * t + 5 by omega, show d0 + 30 * (t + 1) = d0 + 30 * t + 30 by omega] at k
      exact k
    by_cases h0 : y = 0
    · refine lv_tableIn (tgt := 188) hx hb dL_law_40 (by rw [h0]; decide) (by rw [h0]; decide) (by rw [h0]; rfl) (by decide) ?_
      exact lc_feed (Rl := Rl) l hst hall.1 C hX hbz hbl hi1 hi2 hi3 hi4 hi5 hcs hP hD hS hl hR (fun hR hP hD hS hl => tail hR hP hD hS hl)
    by_cases h1 : y = 1
    · refine lv_tableIn (tgt := 261) hx hb dL_law_40 (by rw [h1]; decide) (by rw [h1]; decide) (by rw [h1]; rfl) (by decide) ?_
      exact lc_end (Rl := Rl) l hst hall.2.1 C hX hbz hbl hi1 hi2 hi3 hi4 hi5 hcs hP hD hS hl hR (fun hR hP hD hS hl => tail hR hP hD hS hl)
    by_cases h2 : y = 2
    · refine lv_tableIn (tgt := 286) hx hb dL_law_40 (by rw [h2]; decide) (by rw [h2]; decide) (by rw [h2]; rfl) (by decide) ?_
      exact lc_acts (Rl := Rl) l hst hall.2.2.1 C hX hbz hbl hi1 hi2 hi3 hi4 hi5 hcs hP hD hS hl hR (fun hR hP hD hS hl => tail hR hP hD hS hl)
    by_cases h3 : y = 3
    · refine lv_tableIn (tgt := 330) hx hb dL_law_40 (by rw [h3]; decide) (by rw [h3]; decide) (by rw [h3]; rfl) (by decide) ?_
      exact lc_fault (Rl := Rl) l hst hall.2.2.2.1 C hX hbz hbl hi1 hi2 hi3 hi4 hi5 hcs hP hD hS hl hR (fun hR hP hD hS hl => tail hR hP hD hS hl)
    by_cases h4 : y = 4
    · refine lv_tableIn (tgt := 343) hx hb dL_law_40 (by rw [h4]; decide) (by rw [h4]; decide) (by rw [h4]; rfl) (by decide) ?_
      exact lc_add (Rl := Rl) l hst hall.2.2.2.2.1 C hX hbz hbl hi1 hi2 hi3 hi4 hi5 hcs hP hD hS hl hR (fun hR hP hD hS hl => tail hR hP hD hS hl)
    by_cases h5 : y = 5
    · refine lv_tableIn (tgt := 447) hx hb dL_law_40 (by rw [h5]; decide) (by rw [h5]; decide) (by rw [h5]; rfl) (by decide) ?_
      exact lc_cut (Rl := Rl) l hst hall.2.2.2.2.2.1 C hX hbz hbl hi1 hi2 hi3 hi4 hi5 hcs hP hD hS hl hR (fun hR hP hD hS hl => tail hR hP hD hS hl)
    by_cases h6 : y = 6
    · refine lv_tableIn (tgt := 503) hx hb dL_law_40 (by rw [h6]; decide) (by rw [h6]; decide) (by rw [h6]; rfl) (by decide) ?_
      exact lc_move (Rl := Rl) l hst hall.2.2.2.2.2.2.1 C hX hbz hbl hi1 hi2 hi3 hi4 hi5 hcs hP hD hS hl hR (fun hR hP hD hS hl => tail hR hP hD hS hl)
    by_cases h7 : y = 7
    · refine lv_tableIn (tgt := 583) hx hb dL_law_40 (by rw [h7]; decide) (by rw [h7]; decide) (by rw [h7]; rfl) (by decide) ?_
      exact lc_tint (Rl := Rl) l hst hall.2.2.2.2.2.2.2.1 C hX hbz hbl hi1 hi2 hi3 hi4 hi5 hcs hP hD hS hl hR (fun hR hP hD hS hl => tail hR hP hD hS hl)
    by_cases h8 : y = 8
    · refine lv_tableIn (tgt := 651) hx hb dL_law_40 (by rw [h8]; decide) (by rw [h8]; decide) (by rw [h8]; rfl) (by decide) ?_
      exact lc_turn (Rl := Rl) l hst hall.2.2.2.2.2.2.2.2.1 C hX hbz hbl hi1 hi2 hi3 hi4 hi5 hcs hP hD hS hl hR (fun hR hP hD hS hl => tail hR hP hD hS hl)
    by_cases h9 : y = 9
    · refine lv_tableIn (tgt := 664) hx hb dL_law_40 (by rw [h9]; decide) (by rw [h9]; decide) (by rw [h9]; rfl) (by decide) ?_
      exact lc_undo (Rl := Rl) l hst hall.2.2.2.2.2.2.2.2.2.1 C hX hbz hbl hi1 hi2 hi3 hi4 hi5 hcs hP hD hS hl hR (fun hR hP hD hS hl => tail hR hP hD hS hl)
    by_cases h10 : y = 10
    · refine lv_tableIn (tgt := 708) hx hb dL_law_40 (by rw [h10]; decide) (by rw [h10]; decide) (by rw [h10]; rfl) (by decide) ?_
      exact lc_segment (Rl := Rl) l hst hall.2.2.2.2.2.2.2.2.2.2.1 C hX hbz hbl hi1 hi2 hi3 hi4 hi5 hcs hP hD hS hl hR (fun hR hP hD hS hl => tail hR hP hD hS hl)
    by_cases h11 : y = 11
    · refine lv_tableIn (tgt := 776) hx hb dL_law_40 (by rw [h11]; decide) (by rw [h11]; decide) (by rw [h11]; rfl) (by decide) ?_
      exact lc_how (Rl := Rl) l hst hall.2.2.2.2.2.2.2.2.2.2.2.1 C hX hbz hbl hi1 hi2 hi3 hi4 hi5 hcs hP hD hS hl hR (fun hR hP hD hS hl => tail hR hP hD hS hl)
    by_cases h12 : y = 12
    · refine lv_tableIn (tgt := 844) hx hb dL_law_40 (by rw [h12]; decide) (by rw [h12]; decide) (by rw [h12]; rfl) (by decide) ?_
      exact lc_meet (Rl := Rl) l hst hall.2.2.2.2.2.2.2.2.2.2.2.2.1 C hX hbz hbl hi1 hi2 hi3 hi4 hi5 hcs hP hD hS hl hR (fun hR hP hD hS hl => tail hR hP hD hS hl)
    by_cases h13 : y = 13
    · refine lv_tableIn (tgt := 923) hx hb dL_law_40 (by rw [h13]; decide) (by rw [h13]; decide) (by rw [h13]; rfl) (by decide) ?_
      exact lc_along (Rl := Rl) l hst hall.2.2.2.2.2.2.2.2.2.2.2.2.2.1 C hX hbz hbl hi1 hi2 hi3 hi4 hi5 hcs hP hD hS hl hR (fun hR hP hD hS hl => tail hR hP hD hS hl)
    by_cases h14 : y = 14
    · refine lv_tableIn (tgt := 1003) hx hb dL_law_40 (by rw [h14]; decide) (by rw [h14]; decide) (by rw [h14]; rfl) (by decide) ?_
      exact lc_crossing (Rl := Rl) l hst hall.2.2.2.2.2.2.2.2.2.2.2.2.2.2.1 C hX hbz hbl hi1 hi2 hi3 hi4 hi5 hcs hP hD hS hl hR (fun hR hP hD hS hl => tail hR hP hD hS hl)
    by_cases h15 : y = 15
    · refine lv_tableIn (tgt := 1070) hx hb dL_law_40 (by rw [h15]; decide) (by rw [h15]; decide) (by rw [h15]; rfl) (by decide) ?_
      exact lc_event (Rl := Rl) l hst hall.2.2.2.2.2.2.2.2.2.2.2.2.2.2.2.1 C hX hbz hbl hi1 hi2 hi3 hi4 hi5 hcs hP hD hS hl hR (fun hR hP hD hS hl => tail hR hP hD hS hl)
    by_cases h16 : y = 16
    · refine lv_tableIn (tgt := 1137) hx hb dL_law_40 (by rw [h16]; decide) (by rw [h16]; decide) (by rw [h16]; rfl) (by decide) ?_
      exact lc_status (Rl := Rl) l hst hall.2.2.2.2.2.2.2.2.2.2.2.2.2.2.2.2.1 C hX hbz hbl hi1 hi2 hi3 hi4 hi5 hcs hP hD hS hl hR (fun hR hP hD hS hl => tail hR hP hD hS hl)
    by_cases h17 : y = 17
    · refine lv_tableIn (tgt := 1205) hx hb dL_law_40 (by rw [h17]; decide) (by rw [h17]; decide) (by rw [h17]; rfl) (by decide) ?_
      exact lc_rank (Rl := Rl) l hst hall.2.2.2.2.2.2.2.2.2.2.2.2.2.2.2.2.2.1 C hX hbz hbl hi1 hi2 hi3 hi4 hi5 hcs hP hD hS hl hR (fun hR hP hD hS hl => tail hR hP hD hS hl)
    by_cases h18 : y = 18
    · refine lv_tableIn (tgt := 1273) hx hb dL_law_40 (by rw [h18]; decide) (by rw [h18]; decide) (by rw [h18]; rfl) (by decide) ?_
      exact lc_road (Rl := Rl) l hst hall.2.2.2.2.2.2.2.2.2.2.2.2.2.2.2.2.2.2.1 C hX hbz hbl hi1 hi2 hi3 hi4 hi5 hcs hP hD hS hl hR (fun hR hP hD hS hl => tail hR hP hD hS hl)
    by_cases h19 : y = 19
    · refine lv_tableIn (tgt := 1341) hx hb dL_law_40 (by rw [h19]; decide) (by rw [h19]; decide) (by rw [h19]; rfl) (by decide) ?_
      exact lc_view (Rl := Rl) l hst hall.2.2.2.2.2.2.2.2.2.2.2.2.2.2.2.2.2.2.2.1 C hX hbz hbl hi1 hi2 hi3 hi4 hi5 hcs hP hD hS hl hR (fun hR hP hD hS hl => tail hR hP hD hS hl)
    by_cases h20 : y = 20
    · refine lv_tableIn (tgt := 1366) hx hb dL_law_40 (by rw [h20]; decide) (by rw [h20]; decide) (by rw [h20]; rfl) (by decide) ?_
      exact lc_tied (Rl := Rl) l hst hall.2.2.2.2.2.2.2.2.2.2.2.2.2.2.2.2.2.2.2.2.1 C hX hbz hbl hi1 hi2 hi3 hi4 hi5 hcs hP hD hS hl hR (fun hR hP hD hS hl => tail hR hP hD hS hl)
    by_cases h21 : y = 21
    · refine lv_tableIn (tgt := 1422) hx hb dL_law_40 (by rw [h21]; decide) (by rw [h21]; decide) (by rw [h21]; rfl) (by decide) ?_
      exact lc_steps (Rl := Rl) l hst hall.2.2.2.2.2.2.2.2.2.2.2.2.2.2.2.2.2.2.2.2.2.1 C hX hbz hbl hi1 hi2 hi3 hi4 hi5 hcs hP hD hS hl hR (fun hR hP hD hS hl => tail hR hP hD hS hl)
    by_cases h22 : y = 22
    · refine lv_tableIn (tgt := 1490) hx hb dL_law_40 (by rw [h22]; decide) (by rw [h22]; decide) (by rw [h22]; rfl) (by decide) ?_
      exact lc_hull (Rl := Rl) l hst hall.2.2.2.2.2.2.2.2.2.2.2.2.2.2.2.2.2.2.2.2.2.2.1 C hX hbz hbl hi1 hi2 hi3 hi4 hi5 hcs hP hD hS hl hR (fun hR hP hD hS hl => tail hR hP hD hS hl)
    by_cases h23 : y = 23
    · refine lv_tableIn (tgt := 1574) hx hb dL_law_40 (by rw [h23]; decide) (by rw [h23]; decide) (by rw [h23]; rfl) (by decide) ?_
      exact lc_on (Rl := Rl) l hst hall.2.2.2.2.2.2.2.2.2.2.2.2.2.2.2.2.2.2.2.2.2.2.2.1 C hX hbz hbl hi1 hi2 hi3 hi4 hi5 hcs hP hD hS hl hR (fun hR hP hD hS hl => tail hR hP hD hS hl)
    by_cases h24 : y = 24
    · refine lv_tableIn (tgt := 1642) hx hb dL_law_40 (by rw [h24]; decide) (by rw [h24]; decide) (by rw [h24]; rfl) (by decide) ?_
      exact lc_at (Rl := Rl) l hst hall.2.2.2.2.2.2.2.2.2.2.2.2.2.2.2.2.2.2.2.2.2.2.2.2.1 C hX hbz hbl hi1 hi2 hi3 hi4 hi5 hcs hP hD hS hl hR (fun hR hP hD hS hl => tail hR hP hD hS hl)
    by_cases h25 : y = 25
    · refine lv_tableIn (tgt := 1710) hx hb dL_law_40 (by rw [h25]; decide) (by rw [h25]; decide) (by rw [h25]; rfl) (by decide) ?_
      exact lc_next (Rl := Rl) l hst hall.2.2.2.2.2.2.2.2.2.2.2.2.2.2.2.2.2.2.2.2.2.2.2.2.2.1 C hX hbz hbl hi1 hi2 hi3 hi4 hi5 hcs hP hD hS hl hR (fun hR hP hD hS hl => tail hR hP hD hS hl)
    by_cases h26 : y = 26
    · refine lv_tableIn (tgt := 1806) hx hb dL_law_40 (by rw [h26]; decide) (by rw [h26]; decide) (by rw [h26]; rfl) (by decide) ?_
      exact lc_over (Rl := Rl) l hst hall.2.2.2.2.2.2.2.2.2.2.2.2.2.2.2.2.2.2.2.2.2.2.2.2.2.2.1 C hX hbz hbl hi1 hi2 hi3 hi4 hi5 hcs hP hD hS hl hR (fun hR hP hD hS hl => tail hR hP hD hS hl)
    by_cases h27 : y = 27
    · refine lv_tableIn (tgt := 1874) hx hb dL_law_40 (by rw [h27]; decide) (by rw [h27]; decide) (by rw [h27]; rfl) (by decide) ?_
      exact lc_sight (Rl := Rl) l hst hall.2.2.2.2.2.2.2.2.2.2.2.2.2.2.2.2.2.2.2.2.2.2.2.2.2.2.2.1 C hX hbz hbl hi1 hi2 hi3 hi4 hi5 hcs hP hD hS hl hR (fun hR hP hD hS hl => tail hR hP hD hS hl)
    by_cases h28 : y = 28
    · refine lv_tableIn (tgt := 1966) hx hb dL_law_40 (by rw [h28]; decide) (by rw [h28]; decide) (by rw [h28]; rfl) (by decide) ?_
      exact lc_box (Rl := Rl) l hst hall.2.2.2.2.2.2.2.2.2.2.2.2.2.2.2.2.2.2.2.2.2.2.2.2.2.2.2.2.1 C hX hbz hbl hi1 hi2 hi3 hi4 hi5 hcs hP hD hS hl hR (fun hR hP hD hS hl => tail hR hP hD hS hl)
    by_cases h29 : y = 29
    · refine lv_tableIn (tgt := 2058) hx hb dL_law_40 (by rw [h29]; decide) (by rw [h29]; decide) (by rw [h29]; rfl) (by decide) ?_
      exact lc_tinted (Rl := Rl) l hst hall.2.2.2.2.2.2.2.2.2.2.2.2.2.2.2.2.2.2.2.2.2.2.2.2.2.2.2.2.2.1 C hX hbz hbl hi1 hi2 hi3 hi4 hi5 hcs hP hD hS hl hR (fun hR hP hD hS hl => tail hR hP hD hS hl)
    by_cases h30 : y = 30
    · refine lv_tableIn (tgt := 2126) hx hb dL_law_40 (by rw [h30]; decide) (by rw [h30]; decide) (by rw [h30]; rfl) (by decide) ?_
      exact lc_image (Rl := Rl) l hst hall.2.2.2.2.2.2.2.2.2.2.2.2.2.2.2.2.2.2.2.2.2.2.2.2.2.2.2.2.2.2.1 C hX hbz hbl hi1 hi2 hi3 hi4 hi5 hcs hP hD hS hl hR (fun hR hP hD hS hl => tail hR hP hD hS hl)
    by_cases h31 : y = 31
    · refine lv_tableIn (tgt := 2137) hx hb dL_law_40 (by rw [h31]; decide) (by rw [h31]; decide) (by rw [h31]; rfl) (by decide) ?_
      exact lc_back (Rl := Rl) l hst hall.2.2.2.2.2.2.2.2.2.2.2.2.2.2.2.2.2.2.2.2.2.2.2.2.2.2.2.2.2.2.2.1 C hX hbz hbl hi1 hi2 hi3 hi4 hi5 hcs hP hD hS hl hR (fun hR hP hD hS hl => tail hR hP hD hS hl)
    by_cases h32 : y = 32
    · refine lv_tableIn (tgt := 2150) hx hb dL_law_40 (by rw [h32]; decide) (by rw [h32]; decide) (by rw [h32]; rfl) (by decide) ?_
      exact lc_count (Rl := Rl) l hst hall.2.2.2.2.2.2.2.2.2.2.2.2.2.2.2.2.2.2.2.2.2.2.2.2.2.2.2.2.2.2.2.2 C hX hbz hbl hi1 hi2 hi3 hi4 hi5 hcs hP hD hS hl hR (fun hR hP hD hS hl => tail hR hP hD hS hl)
    refine lv_tableOut (tgt := 2175) hx hb dL_law_40 (xs_swo [0, 1, 2, 3, 4, 5, 6, 7, 8, 9, 10, 11, 12, 13, 14, 15, 16, 17, 18, 19, 20, 21, 22, 23, 24, 25, 26, 27, 28, 29, 30, 31, 32] (by decide) ⟨h0, h1, h2, h3, h4, h5, h6, h7, h8, h9, h10, h11, h12, h13, h14, h15, h16, h17, h18, h19, h20, h21, h22, h23, h24, h25, h26, h27, h28, h29, h30, h31, h32, trivial⟩) (by decide) ?_
    exact W.widen (Nat.le_add_right _ _) (Nat.le_add_right _ _) (tail hR hP hD hS hl)
end XSLB
