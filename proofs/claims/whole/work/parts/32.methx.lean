set_option maxRecDepth 100000 in
set_option maxHeartbeats 8000000 in
theorem mX10_acts (l : Launch) (hst : l.stackTraces = false) {X : xsX} {kIsKept kIsStale hiLatest hiSize scLength scFault scAt scNumber piSegmentsNow enKind enFromX enFromY enToX enToY tiMeetingPairs tiAlongPairs tiSize evSize evCrossings evSegmentsNow grEdges grQueued huSize huBestX huBestY : Int32} {scBytes scTold tiTouching tiLyingAlong evBundle evCrossingOf evEventOf evLeftEvent evRightEvent grDegree grFar grQueue huX huY : Nat → Int32} {enX enY enLower : Int64} {evX evY evLower : Nat → Int64} {S : Nat → xsV} {Rw : va_W} {g0Lx g0Ly g0Rx g0Ry g0Ti : Nat → Int32} {g0Sz : Int32} (hs_0 : S 0 = (g0Lx, g0Ly, g0Rx, g0Ry, g0Ti, g0Sz)) {g3Lx g3Ly g3Rx g3Ry g3Ti : Nat → Int32} {g3Sz : Int32} (hs_3 : S 3 = (g3Lx, g3Ly, g3Rx, g3Ry, g3Ti, g3Sz)) {out : (Int32 × Int32 × Int32 × (Nat → Int32) × Int32 × Int32 × Int32 × Int32 × (Nat → Int32) × (Nat → Int32) × (Nat → Int32) × (Nat → Int32) × (Nat → Int32) × Int32 × (Nat → Int32) × (Nat → Int32) × (Nat → Int32) × (Nat → Int32) × (Nat → Int32) × Int32) ⊕ (Nat × (Int32 × Int32 × (Nat → Int32) × Int32 × Int32 × Int32 × Int32 × (Nat → Int32) × (Nat → Int32) × (Nat → Int32) × (Nat → Int32) × (Nat → Int32) × Int32 × (Nat → Int32) × (Nat → Int32) × (Nat → Int32) × (Nat → Int32) × (Nat → Int32) × Int32))} (hf : fX10_acts kIsStale hiSize scBytes scTold scLength scFault scAt scNumber g0Lx g0Ly g0Rx g0Ry g0Ti g0Sz g3Lx g3Ly g3Rx g3Ry g3Ti g3Sz = some out) : vx_Met l yX10_acts (xsWs yX10_acts cX10_acts 2 (some .int)) { frames := 8, cells := 1, slots := 6, locals := 177 } (xsP X (wK X kIsKept kIsStale hiLatest hiSize scBytes scTold scLength scFault scAt scNumber piSegmentsNow enKind enX enY enLower enFromX enFromY enToX enToY tiTouching tiLyingAlong tiMeetingPairs tiAlongPairs tiSize evX evY evLower evBundle evCrossingOf evEventOf evLeftEvent evRightEvent evSize evCrossings evSegmentsNow grDegree grEdges grFar grQueue grQueued huX huY huSize huBestX huBestY S Rw) [.ref (xsA X 0)]) (xsXi X (fun r u => ∃ tt, out = .inl tt ∧ r = tt.1 ∧ u = wK X kIsKept tt.2.1 hiLatest tt.2.2.1 scBytes tt.2.2.2.1 tt.2.2.2.2.1 tt.2.2.2.2.2.1 tt.2.2.2.2.2.2.1 tt.2.2.2.2.2.2.2.1 piSegmentsNow enKind enX enY enLower enFromX enFromY enToX enToY tiTouching tiLyingAlong tiMeetingPairs tiAlongPairs tiSize evX evY evLower evBundle evCrossingOf evEventOf evLeftEvent evRightEvent evSize evCrossings evSegmentsNow grDegree grEdges grFar grQueue grQueued huX huY huSize huBestX huBestY (xsSu (xsSu S 0 (tt.2.2.2.2.2.2.2.2.1, tt.2.2.2.2.2.2.2.2.2.1, tt.2.2.2.2.2.2.2.2.2.2.1, tt.2.2.2.2.2.2.2.2.2.2.2.1, tt.2.2.2.2.2.2.2.2.2.2.2.2.1, tt.2.2.2.2.2.2.2.2.2.2.2.2.2.1)) 3 (tt.2.2.2.2.2.2.2.2.2.2.2.2.2.2.1, tt.2.2.2.2.2.2.2.2.2.2.2.2.2.2.2.1, tt.2.2.2.2.2.2.2.2.2.2.2.2.2.2.2.2.1, tt.2.2.2.2.2.2.2.2.2.2.2.2.2.2.2.2.2.1, tt.2.2.2.2.2.2.2.2.2.2.2.2.2.2.2.2.2.2.1, tt.2.2.2.2.2.2.2.2.2.2.2.2.2.2.2.2.2.2.2)) Rw)) (xsXC X (fun n u => ∃ tt, out = .inr (n, tt) ∧ u = wK X kIsKept tt.1 hiLatest tt.2.1 scBytes tt.2.2.1 tt.2.2.2.1 tt.2.2.2.2.1 tt.2.2.2.2.2.1 tt.2.2.2.2.2.2.1 piSegmentsNow enKind enX enY enLower enFromX enFromY enToX enToY tiTouching tiLyingAlong tiMeetingPairs tiAlongPairs tiSize evX evY evLower evBundle evCrossingOf evEventOf evLeftEvent evRightEvent evSize evCrossings evSegmentsNow grDegree grEdges grFar grQueue grQueued huX huY huSize huBestX huBestY (xsSu (xsSu S 0 (tt.2.2.2.2.2.2.2.1, tt.2.2.2.2.2.2.2.2.1, tt.2.2.2.2.2.2.2.2.2.1, tt.2.2.2.2.2.2.2.2.2.2.1, tt.2.2.2.2.2.2.2.2.2.2.2.1, tt.2.2.2.2.2.2.2.2.2.2.2.2.1)) 3 (tt.2.2.2.2.2.2.2.2.2.2.2.2.2.1, tt.2.2.2.2.2.2.2.2.2.2.2.2.2.2.1, tt.2.2.2.2.2.2.2.2.2.2.2.2.2.2.2.1, tt.2.2.2.2.2.2.2.2.2.2.2.2.2.2.2.2.1, tt.2.2.2.2.2.2.2.2.2.2.2.2.2.2.2.2.2.1, tt.2.2.2.2.2.2.2.2.2.2.2.2.2.2.2.2.2.2)) Rw)) 1 6 (xsF X) := by
  refine xs_xmet RX10 (by decide) rfl (Nat.le_of_ble_eq_true rfl) ?_
  intro p e s m below meth c ls H locs C hout hP hD hS hr hlk hl
  have hx := C.1
  have hb := C.2.1
  have hl : lv_has ls 2 [(0, .ref (xsA X 0))] := hl
  obtain ⟨Qq, hQq⟩ : ∃ Qq, Qq = xsXi X (fun r u => ∃ tt, out = .inl tt ∧ r = tt.1 ∧ u = wK X kIsKept tt.2.1 hiLatest tt.2.2.1 scBytes tt.2.2.2.1 tt.2.2.2.2.1 tt.2.2.2.2.2.1 tt.2.2.2.2.2.2.1 tt.2.2.2.2.2.2.2.1 piSegmentsNow enKind enX enY enLower enFromX enFromY enToX enToY tiTouching tiLyingAlong tiMeetingPairs tiAlongPairs tiSize evX evY evLower evBundle evCrossingOf evEventOf evLeftEvent evRightEvent evSize evCrossings evSegmentsNow grDegree grEdges grFar grQueue grQueued huX huY huSize huBestX huBestY (xsSu (xsSu S 0 (tt.2.2.2.2.2.2.2.2.1, tt.2.2.2.2.2.2.2.2.2.1, tt.2.2.2.2.2.2.2.2.2.2.1, tt.2.2.2.2.2.2.2.2.2.2.2.1, tt.2.2.2.2.2.2.2.2.2.2.2.2.1, tt.2.2.2.2.2.2.2.2.2.2.2.2.2.1)) 3 (tt.2.2.2.2.2.2.2.2.2.2.2.2.2.2.1, tt.2.2.2.2.2.2.2.2.2.2.2.2.2.2.2.1, tt.2.2.2.2.2.2.2.2.2.2.2.2.2.2.2.2.1, tt.2.2.2.2.2.2.2.2.2.2.2.2.2.2.2.2.2.1, tt.2.2.2.2.2.2.2.2.2.2.2.2.2.2.2.2.2.2.1, tt.2.2.2.2.2.2.2.2.2.2.2.2.2.2.2.2.2.2.2)) Rw) := ⟨_, rfl⟩
  rw [← hQq]
  obtain ⟨Xq, hXq⟩ : ∃ Xq, Xq = xsXC X (fun n u => ∃ tt, out = .inr (n, tt) ∧ u = wK X kIsKept tt.1 hiLatest tt.2.1 scBytes tt.2.2.1 tt.2.2.2.1 tt.2.2.2.2.1 tt.2.2.2.2.2.1 tt.2.2.2.2.2.2.1 piSegmentsNow enKind enX enY enLower enFromX enFromY enToX enToY tiTouching tiLyingAlong tiMeetingPairs tiAlongPairs tiSize evX evY evLower evBundle evCrossingOf evEventOf evLeftEvent evRightEvent evSize evCrossings evSegmentsNow grDegree grEdges grFar grQueue grQueued huX huY huSize huBestX huBestY (xsSu (xsSu S 0 (tt.2.2.2.2.2.2.2.1, tt.2.2.2.2.2.2.2.2.1, tt.2.2.2.2.2.2.2.2.2.1, tt.2.2.2.2.2.2.2.2.2.2.1, tt.2.2.2.2.2.2.2.2.2.2.2.1, tt.2.2.2.2.2.2.2.2.2.2.2.2.1)) 3 (tt.2.2.2.2.2.2.2.2.2.2.2.2.2.1, tt.2.2.2.2.2.2.2.2.2.2.2.2.2.2.1, tt.2.2.2.2.2.2.2.2.2.2.2.2.2.2.2.1, tt.2.2.2.2.2.2.2.2.2.2.2.2.2.2.2.2.1, tt.2.2.2.2.2.2.2.2.2.2.2.2.2.2.2.2.2.1, tt.2.2.2.2.2.2.2.2.2.2.2.2.2.2.2.2.2.2)) Rw) := ⟨_, rfl⟩
  rw [← hXq]
  unfold fX10_acts at hf
  refine lv_aload_n hx hb dX10_acts_0 rfl (lv_at hl 0 rfl) ?_
  refine xg_X10_32 C hP dX10_acts_1 ?_
  refine lv_aload_n hx hb dX10_acts_4 rfl (lv_at hl 0 rfl) ?_
  refine xg_X10_10 C hP dX10_acts_5 ?_
  replace hf := xsBd_use hf
  obtain ⟨o1, h2, hf⟩ := hf
  refine xs_calli hS (xs_runV (As := [.ref (xsA X 27)]) C (mX6_read l (js := 0) (by decide) (by decide) hs_0 hs_3 h2) w_773 w_774 w_775 w_108 w_776 hd_X6_read ⟨rfl, rfl, Nat.le_of_ble_eq_true rfl, Nat.le_of_ble_eq_true rfl, Nat.le_of_ble_eq_true rfl, Nat.le_of_ble_eq_true rfl⟩ hP hD hS lk_X6 rfl hl.1 rfl (Nat.le_of_ble_eq_true rfl) dX10_acts_8) (fun H locs hP hD hS => ?_)
  refine lv_istore_n (lv' := [(1, .int o1.1), (0, .ref (xsA X 0))]) hx hb dX10_acts_11 rfl hl (by decide) rfl (fun ls hl => ?_)
  refine lv_aload_n hx hb dX10_acts_12 rfl (lv_at hl 1 rfl) ?_
  refine xg_X10_32 C hP dX10_acts_13 ?_
  refine xg_X10_77 C hP dX10_acts_16 ?_
  refine lv_iconst (v := (-1 : Int32)) hx hb dX10_acts_19 (by decide) ?_
  refine lv_icmp_eq (tgt := 33) hx hb dX10_acts_20 (by decide) (fun c7 => ?_) (fun c7 => ?_)
  · replace hf := xsBr_t c7 hf
    refine lv_aload_n hx hb dX10_acts_33 rfl (lv_at hl 1 rfl) ?_
    refine xg_X10_25 C hP dX10_acts_34 ?_
    replace hf := xsBd_use hf
    obtain ⟨o3, h4, hf⟩ := hf
    refine xs_callv hS (xs_runV (As := []) C (mX3_forget l  h4) w_662 w_663 w_664 w_107 w_665 hd_X3_forget ⟨rfl, rfl, Nat.le_of_ble_eq_true rfl, Nat.le_of_ble_eq_true rfl, Nat.le_of_ble_eq_true rfl, Nat.le_of_ble_eq_true rfl⟩ hP hD hS lk_X3 rfl hl.1 rfl (Nat.le_of_ble_eq_true rfl) dX10_acts_37) (fun H locs hP hD hS => ?_)
    refine lv_aload_n hx hb dX10_acts_40 rfl (lv_at hl 1 rfl) ?_
    refine lv_aload_n hx hb dX10_acts_41 rfl (lv_at hl 1 rfl) ?_
    refine xg_X10_32 C hP dX10_acts_42 ?_
    refine xg_X10_90 C hP dX10_acts_45 ?_
    replace hf := xsBd_use hf
    obtain ⟨o5, h6, hf⟩ := hf
    refine xs_callv hS (xs_runV (As := [.ref (xsA X 45)]) C (mX10_become l (jo := 3) (by decide) (by decide) (xsSu_eq _ _ _) ((xsSu_ne (by decide)).trans (hs_0)) h6) w_666 w_668 w_8 w_105 w_669 hd_X10_become ⟨rfl, rfl, Nat.le_of_ble_eq_true rfl, Nat.le_of_ble_eq_true rfl, Nat.le_of_ble_eq_true rfl, Nat.le_of_ble_eq_true rfl⟩ hP hD hS lk_X10 rfl hl.1 rfl (Nat.le_of_ble_eq_true rfl) dX10_acts_48) (fun H locs hP hD hS => ?_)
    refine lv_iload_n hx hb dX10_acts_51 rfl (lv_at hl 0 rfl) ?_
    have ho := Option.some.inj hf
    subst ho
    rw [hQq]
    rw [xsSu_comm (by decide)] at hP hD
    exact xs_xiret C hr hlk ⟨_, rfl, rfl, rfl⟩ hP hD hS (Nat.le_of_ble_eq_true rfl) (Nat.le_of_ble_eq_true rfl) dX10_acts_52
  · replace hf := xsBr_f c7 hf
    have ho := Option.some.inj hf
    subst ho
    rw [hXq]
    rw [← xsSu_self ((xsSu_ne (by decide)).trans (hs_0))] at hP hD
    rw [xsSu_comm (by decide)] at hP hD
    obtain ⟨sa, hsa⟩ := C.2.2.2.2.2.2.2.2.2.1.1.1
    exact xs_thr 1 hst C (by decide) w_907 w_123 hsa xsBad1 hP hD hS hl.1 dX10_acts_23 dX10_acts_26 dX10_acts_27 dX10_acts_29 dX10_acts_32 hout ⟨Nat.le_of_ble_eq_true rfl, Nat.le_of_ble_eq_true rfl, Nat.le_of_ble_eq_true rfl, Nat.le_of_ble_eq_true rfl⟩ hlk (Nat.le_of_ble_eq_true rfl) (Nat.le_of_ble_eq_true rfl) ⟨_, rfl, rfl⟩
set_option maxRecDepth 100000 in
set_option maxHeartbeats 8000000 in
theorem mX10_checkPoint (l : Launch) (hst : l.stackTraces = false) {X : xsX} {w : va_W} {a0 : Int32} {a1 : Int32} {out : (Unit) ⊕ (Nat × (Unit))} (hf : fX10_checkPoint a0 a1 = some out) : vx_Met l yX10_checkPoint (xsWs yX10_checkPoint cX10_checkPoint 2 none) { frames := 6, cells := 1, slots := 6, locals := 90 } (xsP X (w) [.int a0, .int a1]) (xsXv X (fun u => ∃ tt, out = .inl tt ∧ u = w)) (xsXC X (fun n u => ∃ tt, out = .inr (n, tt) ∧ u = w)) 1 6 (xsF X) := by
  refine xs_xmet RX10 (by decide) rfl (Nat.le_of_ble_eq_true rfl) ?_
  intro p e s m below meth c ls H locs C hout hP hD hS hr hlk hl
  have hx := C.1
  have hb := C.2.1
  have hl : lv_has ls 2 [(0, .int a0), (1, .int a1)] := hl
  obtain ⟨Qq, hQq⟩ : ∃ Qq, Qq = xsXv X (fun u => ∃ tt, out = .inl tt ∧ u = w) := ⟨_, rfl⟩
  rw [← hQq]
  obtain ⟨Xq, hXq⟩ : ∃ Xq, Xq = xsXC X (fun n u => ∃ tt, out = .inr (n, tt) ∧ u = w) := ⟨_, rfl⟩
  rw [← hXq]
  unfold fX10_checkPoint at hf
  refine lv_iload_n hx hb dX10_checkPoint_0 rfl (lv_at hl 0 rfl) ?_
  refine lv_i2l hx hb dX10_checkPoint_1 rfl ?_
  replace hf := xsBd_use hf
  obtain ⟨o1, h2, hf⟩ := hf
  refine xs_calli hS (xs_runS (As := [.long a0.toInt64]) C (mX10_isCoordinate l  h2) w_986 w_889 w_105 w_890 hd_X10_isCoordinate ⟨rfl, rfl, Nat.le_of_ble_eq_true rfl, Nat.le_of_ble_eq_true rfl, Nat.le_of_ble_eq_true rfl, Nat.le_of_ble_eq_true rfl⟩ hP hD hS hl.1 rfl (Nat.le_of_ble_eq_true rfl) dX10_checkPoint_2) (fun H locs hP hD hS => ?_)
  refine lv_if_eq (tgt := 16) hx hb dX10_checkPoint_5 (by decide) (fun c6 => ?_) (fun c6 => ?_)
  · replace hf := xsBr_t c6 hf
    have ho := Option.some.inj hf
    subst ho
    rw [hXq]
    obtain ⟨sa, hsa⟩ := C.2.2.2.2.2.2.2.2.2.1.1.2.1
    exact xs_thrW 1 hst C (by decide) w_907 w_123 hsa xsBad1 hP hD hS hl.1 dX10_checkPoint_16 dX10_checkPoint_19 dX10_checkPoint_20 dX10_checkPoint_23 dX10_checkPoint_26 hout ⟨Nat.le_of_ble_eq_true rfl, Nat.le_of_ble_eq_true rfl, Nat.le_of_ble_eq_true rfl, Nat.le_of_ble_eq_true rfl⟩ hlk (Nat.le_of_ble_eq_true rfl) (Nat.le_of_ble_eq_true rfl) ⟨_, rfl, rfl⟩
  · replace hf := xsBr_f c6 hf
    refine lv_iload_n hx hb dX10_checkPoint_8 rfl (lv_at hl 1 rfl) ?_
    refine lv_i2l hx hb dX10_checkPoint_9 rfl ?_
    replace hf := xsBd_use hf
    obtain ⟨o3, h4, hf⟩ := hf
    refine xs_calli hS (xs_runS (As := [.long a1.toInt64]) C (mX10_isCoordinate l  h4) w_986 w_889 w_105 w_890 hd_X10_isCoordinate ⟨rfl, rfl, Nat.le_of_ble_eq_true rfl, Nat.le_of_ble_eq_true rfl, Nat.le_of_ble_eq_true rfl, Nat.le_of_ble_eq_true rfl⟩ hP hD hS hl.1 rfl (Nat.le_of_ble_eq_true rfl) dX10_checkPoint_10) (fun H locs hP hD hS => ?_)
    refine lv_if_ne (tgt := 27) hx hb dX10_checkPoint_13 (by decide) (fun c5 => ?_) (fun c5 => ?_)
    · replace hf := xsBr_f c5 hf
      have ho := Option.some.inj hf
      subst ho
      rw [hQq]
      exact xs_xvret C hr hlk ⟨_, rfl, rfl⟩ hP hD hS (Nat.le_of_ble_eq_true rfl) (Nat.le_of_ble_eq_true rfl) dX10_checkPoint_27
    · replace hf := xsBr_t c5 hf
      have ho := Option.some.inj hf
      subst ho
      rw [hXq]
      obtain ⟨sa, hsa⟩ := C.2.2.2.2.2.2.2.2.2.1.1.2.1
      exact xs_thrW 1 hst C (by decide) w_907 w_123 hsa xsBad1 hP hD hS hl.1 dX10_checkPoint_16 dX10_checkPoint_19 dX10_checkPoint_20 dX10_checkPoint_23 dX10_checkPoint_26 hout ⟨Nat.le_of_ble_eq_true rfl, Nat.le_of_ble_eq_true rfl, Nat.le_of_ble_eq_true rfl, Nat.le_of_ble_eq_true rfl⟩ hlk (Nat.le_of_ble_eq_true rfl) (Nat.le_of_ble_eq_true rfl) ⟨_, rfl, rfl⟩
set_option maxRecDepth 100000 in
set_option maxHeartbeats 8000000 in
theorem mX10_checkTint (l : Launch) (hst : l.stackTraces = false) {X : xsX} {w : va_W} {a0 : Int32} {out : (Unit) ⊕ (Nat × (Unit))} (hf : fX10_checkTint a0 = some out) : vx_Met l yX10_checkTint (xsWs yX10_checkTint cX10_checkTint 1 none) { frames := 6, cells := 1, slots := 6, locals := 90 } (xsP X (w) [.int a0]) (xsXv X (fun u => ∃ tt, out = .inl tt ∧ u = w)) (xsXC X (fun n u => ∃ tt, out = .inr (n, tt) ∧ u = w)) 1 6 (xsF X) := by
  refine xs_xmet RX10 (by decide) rfl (Nat.le_of_ble_eq_true rfl) ?_
  intro p e s m below meth c ls H locs C hout hP hD hS hr hlk hl
  have hx := C.1
  have hb := C.2.1
  have hl : lv_has ls 1 [(0, .int a0)] := hl
  obtain ⟨Qq, hQq⟩ : ∃ Qq, Qq = xsXv X (fun u => ∃ tt, out = .inl tt ∧ u = w) := ⟨_, rfl⟩
  rw [← hQq]
  obtain ⟨Xq, hXq⟩ : ∃ Xq, Xq = xsXC X (fun n u => ∃ tt, out = .inr (n, tt) ∧ u = w) := ⟨_, rfl⟩
  rw [← hXq]
  unfold fX10_checkTint at hf
  refine lv_iload_n hx hb dX10_checkTint_0 rfl (lv_at hl 0 rfl) ?_
  refine lv_if_lt (tgt := 9) hx hb dX10_checkTint_1 (by decide) (fun c2 => ?_) (fun c2 => ?_)
  · replace hf := xsBr_t c2 hf
    have ho := Option.some.inj hf
    subst ho
    rw [hXq]
    obtain ⟨sa, hsa⟩ := C.2.2.2.2.2.2.2.2.2.1.1.2.2.1
    exact xs_thrW 1 hst C (by decide) w_907 w_123 hsa xsBad1 hP hD hS hl.1 dX10_checkTint_9 dX10_checkTint_12 dX10_checkTint_13 dX10_checkTint_16 dX10_checkTint_19 hout ⟨Nat.le_of_ble_eq_true rfl, Nat.le_of_ble_eq_true rfl, Nat.le_of_ble_eq_true rfl, Nat.le_of_ble_eq_true rfl⟩ hlk (Nat.le_of_ble_eq_true rfl) (Nat.le_of_ble_eq_true rfl) ⟨_, rfl, rfl⟩
  · replace hf := xsBr_f c2 hf
    refine lv_iload_n hx hb dX10_checkTint_4 rfl (lv_at hl 0 rfl) ?_
    refine lv_iconst (v := (3 : Int32)) hx hb dX10_checkTint_5 (by decide) ?_
    refine lv_icmp_le (tgt := 20) hx hb dX10_checkTint_6 (by decide) (fun c1 => ?_) (fun c1 => ?_)
    · replace hf := xsBr_t c1 hf
      have ho := Option.some.inj hf
      subst ho
      rw [hQq]
      exact xs_xvret C hr hlk ⟨_, rfl, rfl⟩ hP hD hS (Nat.le_of_ble_eq_true rfl) (Nat.le_of_ble_eq_true rfl) dX10_checkTint_20
    · replace hf := xsBr_f c1 hf
      have ho := Option.some.inj hf
      subst ho
      rw [hXq]
      obtain ⟨sa, hsa⟩ := C.2.2.2.2.2.2.2.2.2.1.1.2.2.1
      exact xs_thrW 1 hst C (by decide) w_907 w_123 hsa xsBad1 hP hD hS hl.1 dX10_checkTint_9 dX10_checkTint_12 dX10_checkTint_13 dX10_checkTint_16 dX10_checkTint_19 hout ⟨Nat.le_of_ble_eq_true rfl, Nat.le_of_ble_eq_true rfl, Nat.le_of_ble_eq_true rfl, Nat.le_of_ble_eq_true rfl⟩ hlk (Nat.le_of_ble_eq_true rfl) (Nat.le_of_ble_eq_true rfl) ⟨_, rfl, rfl⟩
set_option maxRecDepth 100000 in
set_option maxHeartbeats 8000000 in
theorem mX3_push (l : Launch) {X : xsX} {kIsKept kIsStale hiLatest hiSize scLength scFault scAt scNumber piSegmentsNow enKind enFromX enFromY enToX enToY tiMeetingPairs tiAlongPairs tiSize evSize evCrossings evSegmentsNow grEdges grQueued huSize huBestX huBestY : Int32} {scBytes scTold tiTouching tiLyingAlong evBundle evCrossingOf evEventOf evLeftEvent evRightEvent grDegree grFar grQueue huX huY : Nat → Int32} {enX enY enLower : Int64} {evX evY evLower : Nat → Int64} {S : Nat → xsV} {Rw : va_W} {js : Nat} (hjs : js < 12) {sLx sLy sRx sRy sTi : Nat → Int32} {sSz : Int32} (hs_s : S js = (sLx, sLy, sRx, sRy, sTi, sSz)) {hist : Nat → xsV} (hs_H : ∀ i, S (4 + i) = hist i) (hs4 : js < 4) {out : Int32 × Int32 × (Nat → xsV)} (hf : fX3_push hiLatest hiSize hist sLx sLy sRx sRy sTi sSz = some out) : Met l yX3_push (xsWs yX3_push cX3_push 2 none) { frames := 2, cells := 0, slots := 0, locals := 45 } (xsP X (wK X kIsKept kIsStale hiLatest hiSize scBytes scTold scLength scFault scAt scNumber piSegmentsNow enKind enX enY enLower enFromX enFromY enToX enToY tiTouching tiLyingAlong tiMeetingPairs tiAlongPairs tiSize evX evY evLower evBundle evCrossingOf evEventOf evLeftEvent evRightEvent evSize evCrossings evSegmentsNow grDegree grEdges grFar grQueue grQueued huX huY huSize huBestX huBestY S Rw) [.ref (xsA X 1), .ref (xsA X (27 + 6 * js))]) (xsQv X (wK X kIsKept kIsStale out.1 out.2.1 scBytes scTold scLength scFault scAt scNumber piSegmentsNow enKind enX enY enLower enFromX enFromY enToX enToY tiTouching tiLyingAlong tiMeetingPairs tiAlongPairs tiSize evX evY evLower evBundle evCrossingOf evEventOf evLeftEvent evRightEvent evSize evCrossings evSegmentsNow grDegree grEdges grFar grQueue grQueued huX huY huSize huBestX huBestY (xsHs S out.2.2) Rw)) 0 0 (xsF X) := by
  refine xs_meth RX3 (by decide) rfl (Nat.le_of_ble_eq_true rfl) ?_
  intro p e s m below meth c ls H locs C hP hD hS hr hlk hl
  have hx := C.1
  have hb := C.2.1
  have hl : lv_has ls 2 [(0, .ref (xsA X 1)), (1, .ref (xsA X (27 + 6 * js)))] := hl
  obtain ⟨Qq, hQq⟩ : ∃ Qq, Qq = xsQv X (wK X kIsKept kIsStale out.1 out.2.1 scBytes scTold scLength scFault scAt scNumber piSegmentsNow enKind enX enY enLower enFromX enFromY enToX enToY tiTouching tiLyingAlong tiMeetingPairs tiAlongPairs tiSize evX evY evLower evBundle evCrossingOf evEventOf evLeftEvent evRightEvent evSize evCrossings evSegmentsNow grDegree grEdges grFar grQueue grQueued huX huY huSize huBestX huBestY (xsHs S out.2.2) Rw) := ⟨_, rfl⟩
  rw [← hQq]
  unfold fX3_push at hf
  refine lv_aload_n hx hb dX3_push_0 rfl (lv_at hl 0 rfl) ?_
  refine lv_aload_n hx hb dX3_push_1 rfl (lv_at hl 0 rfl) ?_
  refine xg_X3_18 C hP dX3_push_2 ?_
  refine lv_iconst (v := (1 : Int32)) hx hb dX3_push_5 (by decide) ?_
  refine lv_iadd hx hb dX3_push_6 ?_
  refine lv_bipush (v := (8 : Int32)) hx hb dX3_push_7 (by decide) ?_
  replace hf := xsCk_use hf
  obtain ⟨h1, hf⟩ := hf
  refine lv_irem hx hb dX3_push_9 h1 ?_
  refine lv_topi (fun x2 ex2 => ?_)
  replace hf := xsLt_use ex2 hf
  refine xp_X3_18 C hP hD hS dX3_push_10 (fun H locs hP hD hS => ?_)
  refine lv_aload_n hx hb dX3_push_13 rfl (lv_at hl 0 rfl) ?_
  refine xg_X3_11 C hP dX3_push_14 ?_
  refine lv_aload_n hx hb dX3_push_17 rfl (lv_at hl 0 rfl) ?_
  refine xg_X3_18 C hP dX3_push_18 ?_
  replace hf := xsCk_use hf
  obtain ⟨h3, hf⟩ := hf
  refine xl_rows C hP h3 dX3_push_21 ?_
  obtain ⟨z4, ez4⟩ : ∃ y : xsV, y = hist x2.toNatClampNeg := ⟨_, rfl⟩
  replace hf := xsLt_use ez4 hf
  refine lv_aload_n hx hb dX3_push_22 rfl (lv_at hl 1 rfl) ?_
  replace hf := xsBd_use hf
  obtain ⟨o5, h6, hf⟩ := hf
  refine xs_callv hS (xs_runV (As := [.ref (xsA X (27 + 6 * js))]) C (mX7_copyFrom l (js := (4 + x2.toNatClampNeg)) (xs_in8 h3) (jo := js) hjs (by omega) ((hs_H _).trans ez4.symm) hs_s h6) w_516 w_517 w_518 w_106 w_519 hd_X7_copyFrom ⟨rfl, rfl, Nat.le_of_ble_eq_true rfl, Nat.le_of_ble_eq_true rfl, Nat.le_of_ble_eq_true rfl, Nat.le_of_ble_eq_true rfl⟩ hP hD hS (xs_lkS (xs_in8 h3)) rfl hl.1 rfl (Nat.le_of_ble_eq_true rfl) dX3_push_23) (fun H locs hP hD hS => ?_)
  rw [xs_hsu hs_H] at hP hD
  refine lv_aload_n hx hb dX3_push_26 rfl (lv_at hl 0 rfl) ?_
  refine lv_aload_n hx hb dX3_push_27 rfl (lv_at hl 0 rfl) ?_
  refine xg_X3_22 C hP dX3_push_28 ?_
  refine lv_iconst (v := (1 : Int32)) hx hb dX3_push_31 (by decide) ?_
  refine lv_iadd hx hb dX3_push_32 ?_
  refine lv_bipush (v := (8 : Int32)) hx hb dX3_push_33 (by decide) ?_
  refine va_mmin hx hb (C.2.2.1.trans hl.1.symm) C.2.2.2.1 (xs_kts C _ w_524) (xs_kts C _ w_525) (xs_kts C _ w_125) (xs_kts C _ w_526) (Nat.le_of_ble_eq_true rfl) (Nat.le_of_ble_eq_true rfl) (Nat.zero_le _) (Nat.zero_le _) dX3_push_35 ?_
  refine lv_topi (fun x7 ex7 => ?_)
  replace hf := xsLt_use ex7 hf
  refine xp_X3_22 C hP hD hS dX3_push_38 (fun H locs hP hD hS => ?_)
  have ho := Option.some.inj hf
  subst ho
  rw [hQq]
  exact xs_vret C hr hlk hP hD hS dX3_push_41
set_option maxRecDepth 100000 in
set_option maxHeartbeats 8000000 in
theorem mX10_remember (l : Launch) {X : xsX} {kIsKept kIsStale hiLatest hiSize scLength scFault scAt scNumber piSegmentsNow enKind enFromX enFromY enToX enToY tiMeetingPairs tiAlongPairs tiSize evSize evCrossings evSegmentsNow grEdges grQueued huSize huBestX huBestY : Int32} {scBytes scTold tiTouching tiLyingAlong evBundle evCrossingOf evEventOf evLeftEvent evRightEvent grDegree grFar grQueue huX huY : Nat → Int32} {enX enY enLower : Int64} {evX evY evLower : Nat → Int64} {S : Nat → xsV} {Rw : va_W} {g0Lx g0Ly g0Rx g0Ry g0Ti : Nat → Int32} {g0Sz : Int32} (hs_0 : S 0 = (g0Lx, g0Ly, g0Rx, g0Ry, g0Ti, g0Sz)) {hist : Nat → xsV} (hs_H : ∀ i, S (4 + i) = hist i) {out : Int32 × Int32 × Int32 × (Nat → xsV)} (hf : fX10_remember kIsStale hiLatest hiSize hist g0Lx g0Ly g0Rx g0Ry g0Ti g0Sz = some out) : Met l yX10_remember (xsWs yX10_remember cX10_remember 1 none) { frames := 3, cells := 0, slots := 0, locals := 66 } (xsP X (wK X kIsKept kIsStale hiLatest hiSize scBytes scTold scLength scFault scAt scNumber piSegmentsNow enKind enX enY enLower enFromX enFromY enToX enToY tiTouching tiLyingAlong tiMeetingPairs tiAlongPairs tiSize evX evY evLower evBundle evCrossingOf evEventOf evLeftEvent evRightEvent evSize evCrossings evSegmentsNow grDegree grEdges grFar grQueue grQueued huX huY huSize huBestX huBestY S Rw) [.ref (xsA X 0)]) (xsQv X (wK X kIsKept out.1 out.2.1 out.2.2.1 scBytes scTold scLength scFault scAt scNumber piSegmentsNow enKind enX enY enLower enFromX enFromY enToX enToY tiTouching tiLyingAlong tiMeetingPairs tiAlongPairs tiSize evX evY evLower evBundle evCrossingOf evEventOf evLeftEvent evRightEvent evSize evCrossings evSegmentsNow grDegree grEdges grFar grQueue grQueued huX huY huSize huBestX huBestY (xsHs S out.2.2.2) Rw)) 0 0 (xsF X) := by
  refine xs_meth RX10 (by decide) rfl (Nat.le_of_ble_eq_true rfl) ?_
  intro p e s m below meth c ls H locs C hP hD hS hr hlk hl
  have hx := C.1
  have hb := C.2.1
  have hl : lv_has ls 1 [(0, .ref (xsA X 0))] := hl
  obtain ⟨Qq, hQq⟩ : ∃ Qq, Qq = xsQv X (wK X kIsKept out.1 out.2.1 out.2.2.1 scBytes scTold scLength scFault scAt scNumber piSegmentsNow enKind enX enY enLower enFromX enFromY enToX enToY tiTouching tiLyingAlong tiMeetingPairs tiAlongPairs tiSize evX evY evLower evBundle evCrossingOf evEventOf evLeftEvent evRightEvent evSize evCrossings evSegmentsNow grDegree grEdges grFar grQueue grQueued huX huY huSize huBestX huBestY (xsHs S out.2.2.2) Rw) := ⟨_, rfl⟩
  rw [← hQq]
  unfold fX10_remember at hf
  refine lv_aload_n hx hb dX10_remember_0 rfl (lv_at hl 0 rfl) ?_
  refine xg_X10_25 C hP dX10_remember_1 ?_
  refine lv_aload_n hx hb dX10_remember_4 rfl (lv_at hl 0 rfl) ?_
  refine xg_X10_10 C hP dX10_remember_5 ?_
  replace hf := xsBd_use hf
  obtain ⟨o1, h2, hf⟩ := hf
  refine xs_callv hS (xs_runV (As := [.ref (xsA X 27)]) C (mX3_push l (js := 0) (by decide) hs_0 hs_H (by decide) h2) w_512 w_513 w_514 w_107 w_515 hd_X3_push ⟨rfl, rfl, Nat.le_of_ble_eq_true rfl, Nat.le_of_ble_eq_true rfl, Nat.le_of_ble_eq_true rfl, Nat.le_of_ble_eq_true rfl⟩ hP hD hS lk_X3 rfl hl.1 rfl (Nat.le_of_ble_eq_true rfl) dX10_remember_8) (fun H locs hP hD hS => ?_)
  refine lv_aload_n hx hb dX10_remember_11 rfl (lv_at hl 0 rfl) ?_
  refine lv_iconst (v := (1 : Int32)) hx hb dX10_remember_12 (by decide) ?_
  refine xp_X10_54 xsB_1 C hP hD hS dX10_remember_13 (fun H locs hP hD hS => ?_)
  have ho := Option.some.inj hf
  subst ho
  rw [hQq]
  exact xs_vret C hr hlk hP hD hS dX10_remember_16
set_option maxRecDepth 100000 in
set_option maxHeartbeats 8000000 in
theorem mX10_add (l : Launch) (hst : l.stackTraces = false) {X : xsX} {kIsKept kIsStale hiLatest hiSize scLength scFault scAt scNumber piSegmentsNow enKind enFromX enFromY enToX enToY tiMeetingPairs tiAlongPairs tiSize evSize evCrossings evSegmentsNow grEdges grQueued huSize huBestX huBestY : Int32} {scBytes scTold tiTouching tiLyingAlong evBundle evCrossingOf evEventOf evLeftEvent evRightEvent grDegree grFar grQueue huX huY : Nat → Int32} {enX enY enLower : Int64} {evX evY evLower : Nat → Int64} {S : Nat → xsV} {Rw : va_W} {g0Lx g0Ly g0Rx g0Ry g0Ti : Nat → Int32} {g0Sz : Int32} (hs_0 : S 0 = (g0Lx, g0Ly, g0Rx, g0Ry, g0Ti, g0Sz)) {hist : Nat → xsV} (hs_H : ∀ i, S (4 + i) = hist i) {a0 : Int32} {a1 : Int32} {a2 : Int32} {a3 : Int32} {a4 : Int32} {out : (Int32 × Int32 × Int32 × Int32 × (Nat → xsV) × (Nat → Int32) × (Nat → Int32) × (Nat → Int32) × (Nat → Int32) × (Nat → Int32) × Int32) ⊕ (Nat × (Int32 × Int32 × Int32 × (Nat → xsV) × (Nat → Int32) × (Nat → Int32) × (Nat → Int32) × (Nat → Int32) × (Nat → Int32) × Int32))} (hf : fX10_add kIsStale hiLatest hiSize hist g0Lx g0Ly g0Rx g0Ry g0Ti g0Sz a0 a1 a2 a3 a4 = some out) : vx_Met l yX10_add (xsWs yX10_add cX10_add 6 (some .int)) { frames := 7, cells := 4, slots := 24, locals := 111 } (xsP X (wK X kIsKept kIsStale hiLatest hiSize scBytes scTold scLength scFault scAt scNumber piSegmentsNow enKind enX enY enLower enFromX enFromY enToX enToY tiTouching tiLyingAlong tiMeetingPairs tiAlongPairs tiSize evX evY evLower evBundle evCrossingOf evEventOf evLeftEvent evRightEvent evSize evCrossings evSegmentsNow grDegree grEdges grFar grQueue grQueued huX huY huSize huBestX huBestY S Rw) [.ref (xsA X 0), .int a0, .int a1, .int a2, .int a3, .int a4]) (xsXi X (fun r u => ∃ tt, out = .inl tt ∧ r = tt.1 ∧ u = wK X kIsKept tt.2.1 tt.2.2.1 tt.2.2.2.1 scBytes scTold scLength scFault scAt scNumber piSegmentsNow enKind enX enY enLower enFromX enFromY enToX enToY tiTouching tiLyingAlong tiMeetingPairs tiAlongPairs tiSize evX evY evLower evBundle evCrossingOf evEventOf evLeftEvent evRightEvent evSize evCrossings evSegmentsNow grDegree grEdges grFar grQueue grQueued huX huY huSize huBestX huBestY (xsSu (xsHs S tt.2.2.2.2.1) 0 (tt.2.2.2.2.2.1, tt.2.2.2.2.2.2.1, tt.2.2.2.2.2.2.2.1, tt.2.2.2.2.2.2.2.2.1, tt.2.2.2.2.2.2.2.2.2.1, tt.2.2.2.2.2.2.2.2.2.2)) Rw)) (xsXC X (fun n u => ∃ tt, out = .inr (n, tt) ∧ u = wK X kIsKept tt.1 tt.2.1 tt.2.2.1 scBytes scTold scLength scFault scAt scNumber piSegmentsNow enKind enX enY enLower enFromX enFromY enToX enToY tiTouching tiLyingAlong tiMeetingPairs tiAlongPairs tiSize evX evY evLower evBundle evCrossingOf evEventOf evLeftEvent evRightEvent evSize evCrossings evSegmentsNow grDegree grEdges grFar grQueue grQueued huX huY huSize huBestX huBestY (xsSu (xsHs S tt.2.2.2.1) 0 (tt.2.2.2.2.1, tt.2.2.2.2.2.1, tt.2.2.2.2.2.2.1, tt.2.2.2.2.2.2.2.1, tt.2.2.2.2.2.2.2.2.1, tt.2.2.2.2.2.2.2.2.2)) Rw)) 4 24 (xsF X) := by
  refine xs_xmet RX10 (by decide) rfl (Nat.le_of_ble_eq_true rfl) ?_
  intro p e s m below meth c ls H locs C hout hP hD hS hr hlk hl
  have hx := C.1
  have hb := C.2.1
  have hl : lv_has ls 6 [(0, .ref (xsA X 0)), (1, .int a0), (2, .int a1), (3, .int a2), (4, .int a3), (5, .int a4)] := hl
  obtain ⟨Qq, hQq⟩ : ∃ Qq, Qq = xsXi X (fun r u => ∃ tt, out = .inl tt ∧ r = tt.1 ∧ u = wK X kIsKept tt.2.1 tt.2.2.1 tt.2.2.2.1 scBytes scTold scLength scFault scAt scNumber piSegmentsNow enKind enX enY enLower enFromX enFromY enToX enToY tiTouching tiLyingAlong tiMeetingPairs tiAlongPairs tiSize evX evY evLower evBundle evCrossingOf evEventOf evLeftEvent evRightEvent evSize evCrossings evSegmentsNow grDegree grEdges grFar grQueue grQueued huX huY huSize huBestX huBestY (xsSu (xsHs S tt.2.2.2.2.1) 0 (tt.2.2.2.2.2.1, tt.2.2.2.2.2.2.1, tt.2.2.2.2.2.2.2.1, tt.2.2.2.2.2.2.2.2.1, tt.2.2.2.2.2.2.2.2.2.1, tt.2.2.2.2.2.2.2.2.2.2)) Rw) := ⟨_, rfl⟩
  rw [← hQq]
  obtain ⟨Xq, hXq⟩ : ∃ Xq, Xq = xsXC X (fun n u => ∃ tt, out = .inr (n, tt) ∧ u = wK X kIsKept tt.1 tt.2.1 tt.2.2.1 scBytes scTold scLength scFault scAt scNumber piSegmentsNow enKind enX enY enLower enFromX enFromY enToX enToY tiTouching tiLyingAlong tiMeetingPairs tiAlongPairs tiSize evX evY evLower evBundle evCrossingOf evEventOf evLeftEvent evRightEvent evSize evCrossings evSegmentsNow grDegree grEdges grFar grQueue grQueued huX huY huSize huBestX huBestY (xsSu (xsHs S tt.2.2.2.1) 0 (tt.2.2.2.2.1, tt.2.2.2.2.2.1, tt.2.2.2.2.2.2.1, tt.2.2.2.2.2.2.2.1, tt.2.2.2.2.2.2.2.2.1, tt.2.2.2.2.2.2.2.2.2)) Rw) := ⟨_, rfl⟩
  rw [← hXq]
  unfold fX10_add at hf
  refine lv_iload_n hx hb dX10_add_0 rfl (lv_at hl 1 rfl) ?_
  refine lv_iload_n hx hb dX10_add_1 rfl (lv_at hl 2 rfl) ?_
  replace hf := xsBd_use hf
  obtain ⟨o1, h2, hf⟩ := hf
  refine xs_xcallv hS (xs_xrunS (As := [.int a0, .int a1]) C (mX10_checkPoint l hst  h2) w_983 w_984 w_105 w_985 hd_X10_checkPoint ⟨rfl, rfl, Nat.le_of_ble_eq_true rfl, Nat.le_of_ble_eq_true rfl, Nat.le_of_ble_eq_true rfl, Nat.le_of_ble_eq_true rfl⟩ hP hD hS hl.1 rfl (Nat.le_of_ble_eq_true rfl) dX10_add_2) (fun n u q H locs hpx hP hD hS hq => ?_) (fun u H locs hp hP hD hS => ?_)
  · obtain ⟨tx, e1, e2⟩ := hpx
    subst e1
    subst e2
    have ho := Option.some.inj hf
    subst ho
    rw [hXq]
    rw [← xsHs_selfH hs_H] at hP hD
    rw [← xsSu_self ((xsHs_lt (by decide)).trans (hs_0))] at hP hD
    exact xs_xpass hlk hout ⟨_, rfl, rfl⟩ hP hD hS hq (Nat.le_of_ble_eq_true rfl) (Nat.le_of_ble_eq_true rfl)
  obtain ⟨v3, e1, e3⟩ := hp
  subst e1
  subst e3
  replace hf := xsTh_use hf
  refine W.widen (k := 1) (n := 6) (Nat.le_refl _) (Nat.le_refl _) ?_
  refine lv_iload_n hx hb dX10_add_5 rfl (lv_at hl 3 rfl) ?_
  refine lv_iload hx hb dX10_add_6 (lv_at hl 4 rfl) ?_
  replace hf := xsBd_use hf
  obtain ⟨o4, h5, hf⟩ := hf
  refine xs_xcallv hS (xs_xrunS (As := [.int a2, .int a3]) C (mX10_checkPoint l hst  h5) w_983 w_984 w_105 w_985 hd_X10_checkPoint ⟨rfl, rfl, Nat.le_of_ble_eq_true rfl, Nat.le_of_ble_eq_true rfl, Nat.le_of_ble_eq_true rfl, Nat.le_of_ble_eq_true rfl⟩ hP hD hS hl.1 rfl (Nat.le_of_ble_eq_true rfl) dX10_add_8) (fun n u q H locs hpx hP hD hS hq => ?_) (fun u H locs hp hP hD hS => ?_)
  · obtain ⟨tx, e1, e2⟩ := hpx
    subst e1
    subst e2
    have ho := Option.some.inj hf
    subst ho
    rw [hXq]
    rw [← xsHs_selfH hs_H] at hP hD
    rw [← xsSu_self ((xsHs_lt (by decide)).trans (hs_0))] at hP hD
    exact xs_xpass hlk hout ⟨_, rfl, rfl⟩ hP hD hS hq (Nat.le_of_ble_eq_true rfl) (Nat.le_of_ble_eq_true rfl)
  obtain ⟨v6, e1, e3⟩ := hp
  subst e1
  subst e3
  replace hf := xsTh_use hf
  refine W.widen (k := 2) (n := 12) (Nat.le_refl _) (Nat.le_refl _) ?_
  refine lv_iload hx hb dX10_add_11 (lv_at hl 5 rfl) ?_
  replace hf := xsBd_use hf
  obtain ⟨o7, h8, hf⟩ := hf
  refine xs_xcallv hS (xs_xrunS (As := [.int a4]) C (mX10_checkTint l hst  h8) w_988 w_989 w_105 w_990 hd_X10_checkTint ⟨rfl, rfl, Nat.le_of_ble_eq_true rfl, Nat.le_of_ble_eq_true rfl, Nat.le_of_ble_eq_true rfl, Nat.le_of_ble_eq_true rfl⟩ hP hD hS hl.1 rfl (Nat.le_of_ble_eq_true rfl) dX10_add_13) (fun n u q H locs hpx hP hD hS hq => ?_) (fun u H locs hp hP hD hS => ?_)
  · obtain ⟨tx, e1, e2⟩ := hpx
    subst e1
    subst e2
    have ho := Option.some.inj hf
    subst ho
    rw [hXq]
    rw [← xsHs_selfH hs_H] at hP hD
    rw [← xsSu_self ((xsHs_lt (by decide)).trans (hs_0))] at hP hD
    exact xs_xpass hlk hout ⟨_, rfl, rfl⟩ hP hD hS hq (Nat.le_of_ble_eq_true rfl) (Nat.le_of_ble_eq_true rfl)
  obtain ⟨v9, e1, e3⟩ := hp
  subst e1
  subst e3
  replace hf := xsTh_use hf
  refine W.widen (k := 3) (n := 18) (Nat.le_refl _) (Nat.le_refl _) ?_
  refine lv_aload_n hx hb dX10_add_16 rfl (lv_at hl 0 rfl) ?_
  refine xg_X10_10 C hP dX10_add_17 ?_
  replace hf := xsBd_use hf
  obtain ⟨o10, h11, hf⟩ := hf
  refine xs_calli hS (xs_runV (As := []) C (mX7_isFull l (js := 0) (by decide) hs_0 h11) w_992 w_861 w_862 w_106 w_863 hd_X7_isFull ⟨rfl, rfl, Nat.le_of_ble_eq_true rfl, Nat.le_of_ble_eq_true rfl, Nat.le_of_ble_eq_true rfl, Nat.le_of_ble_eq_true rfl⟩ hP hD hS (xs_lkS (by decide)) rfl hl.1 rfl (Nat.le_of_ble_eq_true rfl) dX10_add_20) (fun H locs hP hD hS => ?_)
  refine lv_if_eq (tgt := 36) hx hb dX10_add_23 (by decide) (fun c16 => ?_) (fun c16 => ?_)
  · replace hf := xsBr_t c16 hf
    refine lv_aload_n hx hb dX10_add_36 rfl (lv_at hl 0 rfl) ?_
    replace hf := xsBd_use hf
    obtain ⟨o12, h13, hf⟩ := hf
    refine xs_callv hS (xs_runV (As := []) C (mX10_remember l hs_0 hs_H h13) w_508 w_510 w_0 w_105 w_511 hd_X10_remember ⟨rfl, rfl, Nat.le_of_ble_eq_true rfl, Nat.le_of_ble_eq_true rfl, Nat.le_of_ble_eq_true rfl, Nat.le_of_ble_eq_true rfl⟩ hP hD hS lk_X10 rfl hl.1 rfl (Nat.le_of_ble_eq_true rfl) dX10_add_37) (fun H locs hP hD hS => ?_)
    refine lv_aload_n hx hb dX10_add_40 rfl (lv_at hl 0 rfl) ?_
    refine xg_X10_10 C hP dX10_add_41 ?_
    refine lv_iload_n hx hb dX10_add_44 rfl (lv_at hl 1 rfl) ?_
    refine lv_iload_n hx hb dX10_add_45 rfl (lv_at hl 2 rfl) ?_
    refine lv_iload_n hx hb dX10_add_46 rfl (lv_at hl 3 rfl) ?_
    refine lv_iload hx hb dX10_add_47 (lv_at hl 4 rfl) ?_
    refine lv_iload hx hb dX10_add_49 (lv_at hl 5 rfl) ?_
    replace hf := xsBd_use hf
    obtain ⟨o14, h15, hf⟩ := hf
    refine xs_callv hS (xs_runV (As := [.int a0, .int a1, .int a2, .int a3, .int a4]) C (mX7_append l (js := 0) (by decide) ((xsHs_lt (by decide)).trans (hs_0)) h15) w_1009 w_865 w_866 w_106 w_867 hd_X7_append ⟨rfl, rfl, Nat.le_of_ble_eq_true rfl, Nat.le_of_ble_eq_true rfl, Nat.le_of_ble_eq_true rfl, Nat.le_of_ble_eq_true rfl⟩ hP hD hS (xs_lkS (by decide)) rfl hl.1 rfl (Nat.le_of_ble_eq_true rfl) dX10_add_51) (fun H locs hP hD hS => ?_)
    refine lv_aload_n hx hb dX10_add_54 rfl (lv_at hl 0 rfl) ?_
    refine xg_X10_10 C hP dX10_add_55 ?_
    refine xg_X10_119 (j := 0) (by decide) (xsSu_eq _ _ _) C hP dX10_add_58 ?_
    refine lv_iconst (v := (1 : Int32)) hx hb dX10_add_61 (by decide) ?_
    refine lv_isub hx hb dX10_add_62 ?_
    have ho := Option.some.inj hf
    subst ho
    rw [hQq]
    exact xs_xiret C hr hlk ⟨_, rfl, rfl, rfl⟩ hP hD hS (Nat.le_of_ble_eq_true rfl) (Nat.le_of_ble_eq_true rfl) dX10_add_63
  · replace hf := xsBr_f c16 hf
    have ho := Option.some.inj hf
    subst ho
    rw [hXq]
    rw [← xsHs_selfH hs_H] at hP hD
    rw [← xsSu_self ((xsHs_lt (by decide)).trans (hs_0))] at hP hD
    obtain ⟨sa, hsa⟩ := C.2.2.2.2.2.2.2.2.2.1.1.2.2.2.1
    exact xs_thr 2 hst C (by decide) w_993 w_124 hsa xsBad2 hP hD hS hl.1 dX10_add_26 dX10_add_29 dX10_add_30 dX10_add_32 dX10_add_35 hout ⟨Nat.le_of_ble_eq_true rfl, Nat.le_of_ble_eq_true rfl, Nat.le_of_ble_eq_true rfl, Nat.le_of_ble_eq_true rfl⟩ hlk (Nat.le_of_ble_eq_true rfl) (Nat.le_of_ble_eq_true rfl) ⟨_, rfl, rfl⟩
set_option maxRecDepth 100000 in
set_option maxHeartbeats 8000000 in
theorem mX10_checkPlace (l : Launch) (hst : l.stackTraces = false) {X : xsX} {w : va_W} {a0 : Int32} {a1 : Int32} {out : (Unit) ⊕ (Nat × (Unit))} (hf : fX10_checkPlace a0 a1 = some out) : vx_Met l yX10_checkPlace (xsWs yX10_checkPlace cX10_checkPlace 2 none) { frames := 6, cells := 1, slots := 6, locals := 90 } (xsP X (w) [.int a0, .int a1]) (xsXv X (fun u => ∃ tt, out = .inl tt ∧ u = w)) (xsXC X (fun n u => ∃ tt, out = .inr (n, tt) ∧ u = w)) 1 6 (xsF X) := by
  refine xs_xmet RX10 (by decide) rfl (Nat.le_of_ble_eq_true rfl) ?_
  intro p e s m below meth c ls H locs C hout hP hD hS hr hlk hl
  have hx := C.1
  have hb := C.2.1
  have hl : lv_has ls 2 [(0, .int a0), (1, .int a1)] := hl
  obtain ⟨Qq, hQq⟩ : ∃ Qq, Qq = xsXv X (fun u => ∃ tt, out = .inl tt ∧ u = w) := ⟨_, rfl⟩
  rw [← hQq]
  obtain ⟨Xq, hXq⟩ : ∃ Xq, Xq = xsXC X (fun n u => ∃ tt, out = .inr (n, tt) ∧ u = w) := ⟨_, rfl⟩
  rw [← hXq]
  unfold fX10_checkPlace at hf
  refine lv_iload_n hx hb dX10_checkPlace_0 rfl (lv_at hl 0 rfl) ?_
  refine lv_if_lt (tgt := 9) hx hb dX10_checkPlace_1 (by decide) (fun c2 => ?_) (fun c2 => ?_)
  · replace hf := xsBr_t c2 hf
    have ho := Option.some.inj hf
    subst ho
    rw [hXq]
    obtain ⟨sa, hsa⟩ := C.2.2.2.2.2.2.2.2.2.1.1.2.2.2.2.1
    exact xs_thrW 3 hst C (by decide) w_1025 w_126 hsa xsBad3 hP hD hS hl.1 dX10_checkPlace_9 dX10_checkPlace_12 dX10_checkPlace_13 dX10_checkPlace_16 dX10_checkPlace_19 hout ⟨Nat.le_of_ble_eq_true rfl, Nat.le_of_ble_eq_true rfl, Nat.le_of_ble_eq_true rfl, Nat.le_of_ble_eq_true rfl⟩ hlk (Nat.le_of_ble_eq_true rfl) (Nat.le_of_ble_eq_true rfl) ⟨_, rfl, rfl⟩
  · replace hf := xsBr_f c2 hf
    refine lv_iload_n hx hb dX10_checkPlace_4 rfl (lv_at hl 0 rfl) ?_
    refine lv_iload_n hx hb dX10_checkPlace_5 rfl (lv_at hl 1 rfl) ?_
    refine lv_icmp_lt (tgt := 20) hx hb dX10_checkPlace_6 (by decide) (fun c1 => ?_) (fun c1 => ?_)
    · replace hf := xsBr_t c1 hf
      have ho := Option.some.inj hf
      subst ho
      rw [hQq]
      exact xs_xvret C hr hlk ⟨_, rfl, rfl⟩ hP hD hS (Nat.le_of_ble_eq_true rfl) (Nat.le_of_ble_eq_true rfl) dX10_checkPlace_20
    · replace hf := xsBr_f c1 hf
      have ho := Option.some.inj hf
      subst ho
      rw [hXq]
      obtain ⟨sa, hsa⟩ := C.2.2.2.2.2.2.2.2.2.1.1.2.2.2.2.1
      exact xs_thrW 3 hst C (by decide) w_1025 w_126 hsa xsBad3 hP hD hS hl.1 dX10_checkPlace_9 dX10_checkPlace_12 dX10_checkPlace_13 dX10_checkPlace_16 dX10_checkPlace_19 hout ⟨Nat.le_of_ble_eq_true rfl, Nat.le_of_ble_eq_true rfl, Nat.le_of_ble_eq_true rfl, Nat.le_of_ble_eq_true rfl⟩ hlk (Nat.le_of_ble_eq_true rfl) (Nat.le_of_ble_eq_true rfl) ⟨_, rfl, rfl⟩
set_option maxRecDepth 100000 in
set_option maxHeartbeats 8000000 in
theorem mX10_checkSegment (l : Launch) (hst : l.stackTraces = false) {X : xsX} {kIsKept kIsStale hiLatest hiSize scLength scFault scAt scNumber piSegmentsNow enKind enFromX enFromY enToX enToY tiMeetingPairs tiAlongPairs tiSize evSize evCrossings evSegmentsNow grEdges grQueued huSize huBestX huBestY : Int32} {scBytes scTold tiTouching tiLyingAlong evBundle evCrossingOf evEventOf evLeftEvent evRightEvent grDegree grFar grQueue huX huY : Nat → Int32} {enX enY enLower : Int64} {evX evY evLower : Nat → Int64} {S : Nat → xsV} {Rw : va_W} {g0Lx g0Ly g0Rx g0Ry g0Ti : Nat → Int32} {g0Sz : Int32} (hs_0 : S 0 = (g0Lx, g0Ly, g0Rx, g0Ry, g0Ti, g0Sz)) {a0 : Int32} {out : (Unit) ⊕ (Nat × (Unit))} (hf : fX10_checkSegment g0Sz a0 = some out) : vx_Met l yX10_checkSegment (xsWs yX10_checkSegment cX10_checkSegment 2 none) { frames := 7, cells := 1, slots := 6, locals := 111 } (xsP X (wK X kIsKept kIsStale hiLatest hiSize scBytes scTold scLength scFault scAt scNumber piSegmentsNow enKind enX enY enLower enFromX enFromY enToX enToY tiTouching tiLyingAlong tiMeetingPairs tiAlongPairs tiSize evX evY evLower evBundle evCrossingOf evEventOf evLeftEvent evRightEvent evSize evCrossings evSegmentsNow grDegree grEdges grFar grQueue grQueued huX huY huSize huBestX huBestY S Rw) [.ref (xsA X 0), .int a0]) (xsXv X (fun u => ∃ tt, out = .inl tt ∧ u = wK X kIsKept kIsStale hiLatest hiSize scBytes scTold scLength scFault scAt scNumber piSegmentsNow enKind enX enY enLower enFromX enFromY enToX enToY tiTouching tiLyingAlong tiMeetingPairs tiAlongPairs tiSize evX evY evLower evBundle evCrossingOf evEventOf evLeftEvent evRightEvent evSize evCrossings evSegmentsNow grDegree grEdges grFar grQueue grQueued huX huY huSize huBestX huBestY S Rw)) (xsXC X (fun n u => ∃ tt, out = .inr (n, tt) ∧ u = wK X kIsKept kIsStale hiLatest hiSize scBytes scTold scLength scFault scAt scNumber piSegmentsNow enKind enX enY enLower enFromX enFromY enToX enToY tiTouching tiLyingAlong tiMeetingPairs tiAlongPairs tiSize evX evY evLower evBundle evCrossingOf evEventOf evLeftEvent evRightEvent evSize evCrossings evSegmentsNow grDegree grEdges grFar grQueue grQueued huX huY huSize huBestX huBestY S Rw)) 1 6 (xsF X) := by
  refine xs_xmet RX10 (by decide) rfl (Nat.le_of_ble_eq_true rfl) ?_
  intro p e s m below meth c ls H locs C hout hP hD hS hr hlk hl
  have hx := C.1
  have hb := C.2.1
  have hl : lv_has ls 2 [(0, .ref (xsA X 0)), (1, .int a0)] := hl
  obtain ⟨Qq, hQq⟩ : ∃ Qq, Qq = xsXv X (fun u => ∃ tt, out = .inl tt ∧ u = wK X kIsKept kIsStale hiLatest hiSize scBytes scTold scLength scFault scAt scNumber piSegmentsNow enKind enX enY enLower enFromX enFromY enToX enToY tiTouching tiLyingAlong tiMeetingPairs tiAlongPairs tiSize evX evY evLower evBundle evCrossingOf evEventOf evLeftEvent evRightEvent evSize evCrossings evSegmentsNow grDegree grEdges grFar grQueue grQueued huX huY huSize huBestX huBestY S Rw) := ⟨_, rfl⟩
  rw [← hQq]
  obtain ⟨Xq, hXq⟩ : ∃ Xq, Xq = xsXC X (fun n u => ∃ tt, out = .inr (n, tt) ∧ u = wK X kIsKept kIsStale hiLatest hiSize scBytes scTold scLength scFault scAt scNumber piSegmentsNow enKind enX enY enLower enFromX enFromY enToX enToY tiTouching tiLyingAlong tiMeetingPairs tiAlongPairs tiSize evX evY evLower evBundle evCrossingOf evEventOf evLeftEvent evRightEvent evSize evCrossings evSegmentsNow grDegree grEdges grFar grQueue grQueued huX huY huSize huBestX huBestY S Rw) := ⟨_, rfl⟩
  rw [← hXq]
  unfold fX10_checkSegment at hf
  refine lv_iload_n hx hb dX10_checkSegment_0 rfl (lv_at hl 1 rfl) ?_
  refine lv_aload_n hx hb dX10_checkSegment_1 rfl (lv_at hl 0 rfl) ?_
  refine xg_X10_10 C hP dX10_checkSegment_2 ?_
  refine xg_X10_119 (j := 0) (by decide) hs_0 C hP dX10_checkSegment_5 ?_
  replace hf := xsBd_use hf
  obtain ⟨o1, h2, hf⟩ := hf
  refine xs_xcallv hS (xs_xrunS (As := [.int a0, .int g0Sz]) C (mX10_checkPlace l hst  h2) w_1022 w_1023 w_105 w_1024 hd_X10_checkPlace ⟨rfl, rfl, Nat.le_of_ble_eq_true rfl, Nat.le_of_ble_eq_true rfl, Nat.le_of_ble_eq_true rfl, Nat.le_of_ble_eq_true rfl⟩ hP hD hS hl.1 rfl (Nat.le_of_ble_eq_true rfl) dX10_checkSegment_8) (fun n u q H locs hpx hP hD hS hq => ?_) (fun u H locs hp hP hD hS => ?_)
  · obtain ⟨tx, e1, e2⟩ := hpx
    subst e1
    subst e2
    have ho := Option.some.inj hf
    subst ho
    rw [hXq]
    exact xs_xpass hlk hout ⟨_, rfl, rfl⟩ hP hD hS hq (Nat.le_of_ble_eq_true rfl) (Nat.le_of_ble_eq_true rfl)
  obtain ⟨v3, e1, e3⟩ := hp
  subst e1
  subst e3
  replace hf := xsTh_use hf
  refine W.widen (k := 1) (n := 6) (Nat.le_refl _) (Nat.le_refl _) ?_
  have ho := Option.some.inj hf
  subst ho
  rw [hQq]
  exact xs_xvret C hr hlk ⟨_, rfl, rfl⟩ hP hD hS (Nat.le_of_ble_eq_true rfl) (Nat.le_of_ble_eq_true rfl) dX10_checkSegment_11
set_option maxRecDepth 100000 in
set_option maxHeartbeats 8000000 in
theorem mX10_cut (l : Launch) (hst : l.stackTraces = false) {X : xsX} {kIsKept kIsStale hiLatest hiSize scLength scFault scAt scNumber piSegmentsNow enKind enFromX enFromY enToX enToY tiMeetingPairs tiAlongPairs tiSize evSize evCrossings evSegmentsNow grEdges grQueued huSize huBestX huBestY : Int32} {scBytes scTold tiTouching tiLyingAlong evBundle evCrossingOf evEventOf evLeftEvent evRightEvent grDegree grFar grQueue huX huY : Nat → Int32} {enX enY enLower : Int64} {evX evY evLower : Nat → Int64} {S : Nat → xsV} {Rw : va_W} {g0Lx g0Ly g0Rx g0Ry g0Ti : Nat → Int32} {g0Sz : Int32} (hs_0 : S 0 = (g0Lx, g0Ly, g0Rx, g0Ry, g0Ti, g0Sz)) {hist : Nat → xsV} (hs_H : ∀ i, S (4 + i) = hist i) {a0 : Int32} {out : (Int32 × Int32 × Int32 × Int32 × Int32 × Int32 × Int64 × Int64 × Int64 × Int32 × Int32 × Int32 × Int32 × (Nat → Int32) × (Nat → Int32) × Int32 × Int32 × Int32 × (Nat → Int64) × (Nat → Int64) × (Nat → Int64) × (Nat → Int32) × (Nat → Int32) × (Nat → Int32) × (Nat → Int32) × (Nat → Int32) × Int32 × Int32 × Int32 × (Nat → Int32) × Int32 × (Nat → xsV) × (Nat → Int32) × (Nat → Int32) × (Nat → Int32) × (Nat → Int32) × (Nat → Int32) × Int32) ⊕ (Nat × (Int32 × Int32 × Int32 × Int32 × Int32 × Int64 × Int64 × Int64 × Int32 × Int32 × Int32 × Int32 × (Nat → Int32) × (Nat → Int32) × Int32 × Int32 × Int32 × (Nat → Int64) × (Nat → Int64) × (Nat → Int64) × (Nat → Int32) × (Nat → Int32) × (Nat → Int32) × (Nat → Int32) × (Nat → Int32) × Int32 × Int32 × Int32 × (Nat → Int32) × Int32 × (Nat → xsV) × (Nat → Int32) × (Nat → Int32) × (Nat → Int32) × (Nat → Int32) × (Nat → Int32) × Int32))} (hf : fX10_cut kIsStale hiLatest hiSize piSegmentsNow enKind enX enY enLower enFromX enFromY enToX enToY tiTouching tiLyingAlong tiMeetingPairs tiAlongPairs tiSize evX evY evLower evBundle evCrossingOf evEventOf evLeftEvent evRightEvent evSize evCrossings evSegmentsNow grDegree grEdges hist g0Lx g0Ly g0Rx g0Ry g0Ti g0Sz a0 = some out) : vx_Met l yX10_cut (xsWs yX10_cut cX10_cut 3 (some .int)) { frames := 8, cells := 1, slots := 6, locals := 153 } (xsP X (wK X kIsKept kIsStale hiLatest hiSize scBytes scTold scLength scFault scAt scNumber piSegmentsNow enKind enX enY enLower enFromX enFromY enToX enToY tiTouching tiLyingAlong tiMeetingPairs tiAlongPairs tiSize evX evY evLower evBundle evCrossingOf evEventOf evLeftEvent evRightEvent evSize evCrossings evSegmentsNow grDegree grEdges grFar grQueue grQueued huX huY huSize huBestX huBestY S Rw) [.ref (xsA X 0), .int a0]) (xsXi X (fun r u => ∃ tt, out = .inl tt ∧ r = tt.1 ∧ u = wK X kIsKept tt.2.1 tt.2.2.1 tt.2.2.2.1 scBytes scTold scLength scFault scAt scNumber tt.2.2.2.2.1 tt.2.2.2.2.2.1 tt.2.2.2.2.2.2.1 tt.2.2.2.2.2.2.2.1 tt.2.2.2.2.2.2.2.2.1 tt.2.2.2.2.2.2.2.2.2.1 tt.2.2.2.2.2.2.2.2.2.2.1 tt.2.2.2.2.2.2.2.2.2.2.2.1 tt.2.2.2.2.2.2.2.2.2.2.2.2.1 tt.2.2.2.2.2.2.2.2.2.2.2.2.2.1 tt.2.2.2.2.2.2.2.2.2.2.2.2.2.2.1 tt.2.2.2.2.2.2.2.2.2.2.2.2.2.2.2.1 tt.2.2.2.2.2.2.2.2.2.2.2.2.2.2.2.2.1 tt.2.2.2.2.2.2.2.2.2.2.2.2.2.2.2.2.2.1 tt.2.2.2.2.2.2.2.2.2.2.2.2.2.2.2.2.2.2.1 tt.2.2.2.2.2.2.2.2.2.2.2.2.2.2.2.2.2.2.2.1 tt.2.2.2.2.2.2.2.2.2.2.2.2.2.2.2.2.2.2.2.2.1 tt.2.2.2.2.2.2.2.2.2.2.2.2.2.2.2.2.2.2.2.2.2.1 tt.2.2.2.2.2.2.2.2.2.2.2.2.2.2.2.2.2.2.2.2.2.2.1 tt.2.2.2.2.2.2.2.2.2.2.2.2.2.2.2.2.2.2.2.2.2.2.2.1 tt.2.2.2.2.2.2.2.2.2.2.2.2.2.2.2.2.2.2.2.2.2.2.2.2.1 tt.2.2.2.2.2.2.2.2.2.2.2.2.2.2.2.2.2.2.2.2.2.2.2.2.2.1 tt.2.2.2.2.2.2.2.2.2.2.2.2.2.2.2.2.2.2.2.2.2.2.2.2.2.2.1 tt.2.2.2.2.2.2.2.2.2.2.2.2.2.2.2.2.2.2.2.2.2.2.2.2.2.2.2.1 tt.2.2.2.2.2.2.2.2.2.2.2.2.2.2.2.2.2.2.2.2.2.2.2.2.2.2.2.2.1 tt.2.2.2.2.2.2.2.2.2.2.2.2.2.2.2.2.2.2.2.2.2.2.2.2.2.2.2.2.2.1 tt.2.2.2.2.2.2.2.2.2.2.2.2.2.2.2.2.2.2.2.2.2.2.2.2.2.2.2.2.2.2.1 grFar grQueue grQueued huX huY huSize huBestX huBestY (xsSu (xsHs S tt.2.2.2.2.2.2.2.2.2.2.2.2.2.2.2.2.2.2.2.2.2.2.2.2.2.2.2.2.2.2.2.1) 0 (tt.2.2.2.2.2.2.2.2.2.2.2.2.2.2.2.2.2.2.2.2.2.2.2.2.2.2.2.2.2.2.2.2.1, tt.2.2.2.2.2.2.2.2.2.2.2.2.2.2.2.2.2.2.2.2.2.2.2.2.2.2.2.2.2.2.2.2.2.1, tt.2.2.2.2.2.2.2.2.2.2.2.2.2.2.2.2.2.2.2.2.2.2.2.2.2.2.2.2.2.2.2.2.2.2.1, tt.2.2.2.2.2.2.2.2.2.2.2.2.2.2.2.2.2.2.2.2.2.2.2.2.2.2.2.2.2.2.2.2.2.2.2.1, tt.2.2.2.2.2.2.2.2.2.2.2.2.2.2.2.2.2.2.2.2.2.2.2.2.2.2.2.2.2.2.2.2.2.2.2.2.1, tt.2.2.2.2.2.2.2.2.2.2.2.2.2.2.2.2.2.2.2.2.2.2.2.2.2.2.2.2.2.2.2.2.2.2.2.2.2)) Rw)) (xsXC X (fun n u => ∃ tt, out = .inr (n, tt) ∧ u = wK X kIsKept tt.1 tt.2.1 tt.2.2.1 scBytes scTold scLength scFault scAt scNumber tt.2.2.2.1 tt.2.2.2.2.1 tt.2.2.2.2.2.1 tt.2.2.2.2.2.2.1 tt.2.2.2.2.2.2.2.1 tt.2.2.2.2.2.2.2.2.1 tt.2.2.2.2.2.2.2.2.2.1 tt.2.2.2.2.2.2.2.2.2.2.1 tt.2.2.2.2.2.2.2.2.2.2.2.1 tt.2.2.2.2.2.2.2.2.2.2.2.2.1 tt.2.2.2.2.2.2.2.2.2.2.2.2.2.1 tt.2.2.2.2.2.2.2.2.2.2.2.2.2.2.1 tt.2.2.2.2.2.2.2.2.2.2.2.2.2.2.2.1 tt.2.2.2.2.2.2.2.2.2.2.2.2.2.2.2.2.1 tt.2.2.2.2.2.2.2.2.2.2.2.2.2.2.2.2.2.1 tt.2.2.2.2.2.2.2.2.2.2.2.2.2.2.2.2.2.2.1 tt.2.2.2.2.2.2.2.2.2.2.2.2.2.2.2.2.2.2.2.1 tt.2.2.2.2.2.2.2.2.2.2.2.2.2.2.2.2.2.2.2.2.1 tt.2.2.2.2.2.2.2.2.2.2.2.2.2.2.2.2.2.2.2.2.2.1 tt.2.2.2.2.2.2.2.2.2.2.2.2.2.2.2.2.2.2.2.2.2.2.1 tt.2.2.2.2.2.2.2.2.2.2.2.2.2.2.2.2.2.2.2.2.2.2.2.1 tt.2.2.2.2.2.2.2.2.2.2.2.2.2.2.2.2.2.2.2.2.2.2.2.2.1 tt.2.2.2.2.2.2.2.2.2.2.2.2.2.2.2.2.2.2.2.2.2.2.2.2.2.1 tt.2.2.2.2.2.2.2.2.2.2.2.2.2.2.2.2.2.2.2.2.2.2.2.2.2.2.1 tt.2.2.2.2.2.2.2.2.2.2.2.2.2.2.2.2.2.2.2.2.2.2.2.2.2.2.2.1 tt.2.2.2.2.2.2.2.2.2.2.2.2.2.2.2.2.2.2.2.2.2.2.2.2.2.2.2.2.1 tt.2.2.2.2.2.2.2.2.2.2.2.2.2.2.2.2.2.2.2.2.2.2.2.2.2.2.2.2.2.1 grFar grQueue grQueued huX huY huSize huBestX huBestY (xsSu (xsHs S tt.2.2.2.2.2.2.2.2.2.2.2.2.2.2.2.2.2.2.2.2.2.2.2.2.2.2.2.2.2.2.1) 0 (tt.2.2.2.2.2.2.2.2.2.2.2.2.2.2.2.2.2.2.2.2.2.2.2.2.2.2.2.2.2.2.2.1, tt.2.2.2.2.2.2.2.2.2.2.2.2.2.2.2.2.2.2.2.2.2.2.2.2.2.2.2.2.2.2.2.2.1, tt.2.2.2.2.2.2.2.2.2.2.2.2.2.2.2.2.2.2.2.2.2.2.2.2.2.2.2.2.2.2.2.2.2.1, tt.2.2.2.2.2.2.2.2.2.2.2.2.2.2.2.2.2.2.2.2.2.2.2.2.2.2.2.2.2.2.2.2.2.2.1, tt.2.2.2.2.2.2.2.2.2.2.2.2.2.2.2.2.2.2.2.2.2.2.2.2.2.2.2.2.2.2.2.2.2.2.2.1, tt.2.2.2.2.2.2.2.2.2.2.2.2.2.2.2.2.2.2.2.2.2.2.2.2.2.2.2.2.2.2.2.2.2.2.2.2)) Rw)) 1 6 (xsF X) := by
  refine xs_xmet RX10 (by decide) rfl (Nat.le_of_ble_eq_true rfl) ?_
  intro p e s m below meth c ls H locs C hout hP hD hS hr hlk hl
  have hx := C.1
  have hb := C.2.1
  have hl : lv_has ls 3 [(0, .ref (xsA X 0)), (1, .int a0)] := hl
  obtain ⟨Qq, hQq⟩ : ∃ Qq, Qq = xsXi X (fun r u => ∃ tt, out = .inl tt ∧ r = tt.1 ∧ u = wK X kIsKept tt.2.1 tt.2.2.1 tt.2.2.2.1 scBytes scTold scLength scFault scAt scNumber tt.2.2.2.2.1 tt.2.2.2.2.2.1 tt.2.2.2.2.2.2.1 tt.2.2.2.2.2.2.2.1 tt.2.2.2.2.2.2.2.2.1 tt.2.2.2.2.2.2.2.2.2.1 tt.2.2.2.2.2.2.2.2.2.2.1 tt.2.2.2.2.2.2.2.2.2.2.2.1 tt.2.2.2.2.2.2.2.2.2.2.2.2.1 tt.2.2.2.2.2.2.2.2.2.2.2.2.2.1 tt.2.2.2.2.2.2.2.2.2.2.2.2.2.2.1 tt.2.2.2.2.2.2.2.2.2.2.2.2.2.2.2.1 tt.2.2.2.2.2.2.2.2.2.2.2.2.2.2.2.2.1 tt.2.2.2.2.2.2.2.2.2.2.2.2.2.2.2.2.2.1 tt.2.2.2.2.2.2.2.2.2.2.2.2.2.2.2.2.2.2.1 tt.2.2.2.2.2.2.2.2.2.2.2.2.2.2.2.2.2.2.2.1 tt.2.2.2.2.2.2.2.2.2.2.2.2.2.2.2.2.2.2.2.2.1 tt.2.2.2.2.2.2.2.2.2.2.2.2.2.2.2.2.2.2.2.2.2.1 tt.2.2.2.2.2.2.2.2.2.2.2.2.2.2.2.2.2.2.2.2.2.2.1 tt.2.2.2.2.2.2.2.2.2.2.2.2.2.2.2.2.2.2.2.2.2.2.2.1 tt.2.2.2.2.2.2.2.2.2.2.2.2.2.2.2.2.2.2.2.2.2.2.2.2.1 tt.2.2.2.2.2.2.2.2.2.2.2.2.2.2.2.2.2.2.2.2.2.2.2.2.2.1 tt.2.2.2.2.2.2.2.2.2.2.2.2.2.2.2.2.2.2.2.2.2.2.2.2.2.2.1 tt.2.2.2.2.2.2.2.2.2.2.2.2.2.2.2.2.2.2.2.2.2.2.2.2.2.2.2.1 tt.2.2.2.2.2.2.2.2.2.2.2.2.2.2.2.2.2.2.2.2.2.2.2.2.2.2.2.2.1 tt.2.2.2.2.2.2.2.2.2.2.2.2.2.2.2.2.2.2.2.2.2.2.2.2.2.2.2.2.2.1 tt.2.2.2.2.2.2.2.2.2.2.2.2.2.2.2.2.2.2.2.2.2.2.2.2.2.2.2.2.2.2.1 grFar grQueue grQueued huX huY huSize huBestX huBestY (xsSu (xsHs S tt.2.2.2.2.2.2.2.2.2.2.2.2.2.2.2.2.2.2.2.2.2.2.2.2.2.2.2.2.2.2.2.1) 0 (tt.2.2.2.2.2.2.2.2.2.2.2.2.2.2.2.2.2.2.2.2.2.2.2.2.2.2.2.2.2.2.2.2.1, tt.2.2.2.2.2.2.2.2.2.2.2.2.2.2.2.2.2.2.2.2.2.2.2.2.2.2.2.2.2.2.2.2.2.1, tt.2.2.2.2.2.2.2.2.2.2.2.2.2.2.2.2.2.2.2.2.2.2.2.2.2.2.2.2.2.2.2.2.2.2.1, tt.2.2.2.2.2.2.2.2.2.2.2.2.2.2.2.2.2.2.2.2.2.2.2.2.2.2.2.2.2.2.2.2.2.2.2.1, tt.2.2.2.2.2.2.2.2.2.2.2.2.2.2.2.2.2.2.2.2.2.2.2.2.2.2.2.2.2.2.2.2.2.2.2.2.1, tt.2.2.2.2.2.2.2.2.2.2.2.2.2.2.2.2.2.2.2.2.2.2.2.2.2.2.2.2.2.2.2.2.2.2.2.2.2)) Rw) := ⟨_, rfl⟩
  rw [← hQq]
  obtain ⟨Xq, hXq⟩ : ∃ Xq, Xq = xsXC X (fun n u => ∃ tt, out = .inr (n, tt) ∧ u = wK X kIsKept tt.1 tt.2.1 tt.2.2.1 scBytes scTold scLength scFault scAt scNumber tt.2.2.2.1 tt.2.2.2.2.1 tt.2.2.2.2.2.1 tt.2.2.2.2.2.2.1 tt.2.2.2.2.2.2.2.1 tt.2.2.2.2.2.2.2.2.1 tt.2.2.2.2.2.2.2.2.2.1 tt.2.2.2.2.2.2.2.2.2.2.1 tt.2.2.2.2.2.2.2.2.2.2.2.1 tt.2.2.2.2.2.2.2.2.2.2.2.2.1 tt.2.2.2.2.2.2.2.2.2.2.2.2.2.1 tt.2.2.2.2.2.2.2.2.2.2.2.2.2.2.1 tt.2.2.2.2.2.2.2.2.2.2.2.2.2.2.2.1 tt.2.2.2.2.2.2.2.2.2.2.2.2.2.2.2.2.1 tt.2.2.2.2.2.2.2.2.2.2.2.2.2.2.2.2.2.1 tt.2.2.2.2.2.2.2.2.2.2.2.2.2.2.2.2.2.2.1 tt.2.2.2.2.2.2.2.2.2.2.2.2.2.2.2.2.2.2.2.1 tt.2.2.2.2.2.2.2.2.2.2.2.2.2.2.2.2.2.2.2.2.1 tt.2.2.2.2.2.2.2.2.2.2.2.2.2.2.2.2.2.2.2.2.2.1 tt.2.2.2.2.2.2.2.2.2.2.2.2.2.2.2.2.2.2.2.2.2.2.1 tt.2.2.2.2.2.2.2.2.2.2.2.2.2.2.2.2.2.2.2.2.2.2.2.1 tt.2.2.2.2.2.2.2.2.2.2.2.2.2.2.2.2.2.2.2.2.2.2.2.2.1 tt.2.2.2.2.2.2.2.2.2.2.2.2.2.2.2.2.2.2.2.2.2.2.2.2.2.1 tt.2.2.2.2.2.2.2.2.2.2.2.2.2.2.2.2.2.2.2.2.2.2.2.2.2.2.1 tt.2.2.2.2.2.2.2.2.2.2.2.2.2.2.2.2.2.2.2.2.2.2.2.2.2.2.2.1 tt.2.2.2.2.2.2.2.2.2.2.2.2.2.2.2.2.2.2.2.2.2.2.2.2.2.2.2.2.1 tt.2.2.2.2.2.2.2.2.2.2.2.2.2.2.2.2.2.2.2.2.2.2.2.2.2.2.2.2.2.1 grFar grQueue grQueued huX huY huSize huBestX huBestY (xsSu (xsHs S tt.2.2.2.2.2.2.2.2.2.2.2.2.2.2.2.2.2.2.2.2.2.2.2.2.2.2.2.2.2.2.1) 0 (tt.2.2.2.2.2.2.2.2.2.2.2.2.2.2.2.2.2.2.2.2.2.2.2.2.2.2.2.2.2.2.2.1, tt.2.2.2.2.2.2.2.2.2.2.2.2.2.2.2.2.2.2.2.2.2.2.2.2.2.2.2.2.2.2.2.2.1, tt.2.2.2.2.2.2.2.2.2.2.2.2.2.2.2.2.2.2.2.2.2.2.2.2.2.2.2.2.2.2.2.2.2.1, tt.2.2.2.2.2.2.2.2.2.2.2.2.2.2.2.2.2.2.2.2.2.2.2.2.2.2.2.2.2.2.2.2.2.2.1, tt.2.2.2.2.2.2.2.2.2.2.2.2.2.2.2.2.2.2.2.2.2.2.2.2.2.2.2.2.2.2.2.2.2.2.2.1, tt.2.2.2.2.2.2.2.2.2.2.2.2.2.2.2.2.2.2.2.2.2.2.2.2.2.2.2.2.2.2.2.2.2.2.2.2)) Rw) := ⟨_, rfl⟩
  rw [← hXq]
  unfold fX10_cut at hf
  refine lv_aload_n hx hb dX10_cut_0 rfl (lv_at hl 0 rfl) ?_
  refine lv_iload_n hx hb dX10_cut_1 rfl (lv_at hl 1 rfl) ?_
  replace hf := xsBd_use hf
  obtain ⟨o1, h2, hf⟩ := hf
  refine xs_xcallv hS (xs_xrunV (As := [.int a0]) C (mX10_checkSegment l hst hs_0 h2) w_1018 w_1020 w_28 w_105 w_1021 hd_X10_checkSegment ⟨rfl, rfl, Nat.le_of_ble_eq_true rfl, Nat.le_of_ble_eq_true rfl, Nat.le_of_ble_eq_true rfl, Nat.le_of_ble_eq_true rfl⟩ hP hD hS lk_X10 rfl hl.1 rfl (Nat.le_of_ble_eq_true rfl) dX10_cut_2) (fun n u q H locs hpx hP hD hS hq => ?_) (fun u H locs hp hP hD hS => ?_)
  · obtain ⟨tx, e1, e2⟩ := hpx
    subst e1
    subst e2
    have ho := Option.some.inj hf
    subst ho
    rw [hXq]
    rw [← xsHs_selfH hs_H] at hP hD
    rw [← xsSu_self ((xsHs_lt (by decide)).trans (hs_0))] at hP hD
    exact xs_xpass hlk hout ⟨_, rfl, rfl⟩ hP hD hS hq (Nat.le_of_ble_eq_true rfl) (Nat.le_of_ble_eq_true rfl)
  obtain ⟨v3, e1, e3⟩ := hp
  subst e1
  subst e3
  replace hf := xsTh_use hf
  refine W.widen (k := 1) (n := 6) (Nat.le_refl _) (Nat.le_refl _) ?_
  refine lv_aload_n hx hb dX10_cut_5 rfl (lv_at hl 0 rfl) ?_
  replace hf := xsBd_use hf
  obtain ⟨o4, h5, hf⟩ := hf
  refine xs_callr hS (xs_runV (As := []) C (mX10_drawn l hs_0 h5) w_535 w_537 w_2 w_105 w_538 hd_X10_drawn ⟨rfl, rfl, Nat.le_of_ble_eq_true rfl, Nat.le_of_ble_eq_true rfl, Nat.le_of_ble_eq_true rfl, Nat.le_of_ble_eq_true rfl⟩ hP hD hS lk_X10 rfl hl.1 rfl (Nat.le_of_ble_eq_true rfl) dX10_cut_6) (fun H locs hP hD hS => ?_)
  refine xg_X10_129 C hP dX10_cut_9 ?_
  refine xg_X10_133 C hP dX10_cut_12 ?_
  refine lv_istore_n (lv' := [(2, .int o4.2.2.2.2.2.2.2.2.2.2.2.2.2.2.2.2.2.2.2.2.2.2.2.2.1), (0, .ref (xsA X 0)), (1, .int a0)]) hx hb dX10_cut_15 rfl hl (by decide) rfl (fun ls hl => ?_)
  refine lv_aload_n hx hb dX10_cut_16 rfl (lv_at hl 1 rfl) ?_
  replace hf := xsBd_use hf
  obtain ⟨o6, h7, hf⟩ := hf
  refine xs_callv hS (xs_runV (As := []) C (mX10_remember l hs_0 hs_H h7) w_508 w_510 w_0 w_105 w_511 hd_X10_remember ⟨rfl, rfl, Nat.le_of_ble_eq_true rfl, Nat.le_of_ble_eq_true rfl, Nat.le_of_ble_eq_true rfl, Nat.le_of_ble_eq_true rfl⟩ hP hD hS lk_X10 rfl hl.1 rfl (Nat.le_of_ble_eq_true rfl) dX10_cut_17) (fun H locs hP hD hS => ?_)
  refine lv_aload_n hx hb dX10_cut_20 rfl (lv_at hl 1 rfl) ?_
  refine xg_X10_10 C hP dX10_cut_21 ?_
  refine lv_iload_n hx hb dX10_cut_24 rfl (lv_at hl 2 rfl) ?_
  replace hf := xsBd_use hf
  obtain ⟨o8, h9, hf⟩ := hf
  refine xs_callv hS (xs_runV (As := [.int a0]) C (mX7_drop l (js := 0) (by decide) ((xsHs_lt (by decide)).trans (hs_0)) h9) w_1041 w_875 w_876 w_106 w_877 hd_X7_drop ⟨rfl, rfl, Nat.le_of_ble_eq_true rfl, Nat.le_of_ble_eq_true rfl, Nat.le_of_ble_eq_true rfl, Nat.le_of_ble_eq_true rfl⟩ hP hD hS (xs_lkS (by decide)) rfl hl.1 rfl (Nat.le_of_ble_eq_true rfl) dX10_cut_25) (fun H locs hP hD hS => ?_)
  refine lv_iload_n hx hb dX10_cut_28 rfl (lv_at hl 0 rfl) ?_
  refine lv_aload_n hx hb dX10_cut_29 rfl (lv_at hl 1 rfl) ?_
  replace hf := xsBd_use hf
  obtain ⟨o10, h11, hf⟩ := hf
  refine xs_callr hS (xs_runV (As := []) C (mX10_drawn l (xsSu_eq _ _ _) h11) w_535 w_537 w_2 w_105 w_538 hd_X10_drawn ⟨rfl, rfl, Nat.le_of_ble_eq_true rfl, Nat.le_of_ble_eq_true rfl, Nat.le_of_ble_eq_true rfl, Nat.le_of_ble_eq_true rfl⟩ hP hD hS lk_X10 rfl hl.1 rfl (Nat.le_of_ble_eq_true rfl) dX10_cut_30) (fun H locs hP hD hS => ?_)
  refine xg_X10_129 C hP dX10_cut_33 ?_
  refine xg_X10_133 C hP dX10_cut_36 ?_
  refine lv_isub hx hb dX10_cut_39 ?_
  have ho := Option.some.inj hf
  subst ho
  rw [hQq]
  exact xs_xiret C hr hlk ⟨_, rfl, rfl, rfl⟩ hP hD hS (Nat.le_of_ble_eq_true rfl) (Nat.le_of_ble_eq_true rfl) dX10_cut_40
set_option maxRecDepth 100000 in
set_option maxHeartbeats 8000000 in
theorem mX10_move (l : Launch) (hst : l.stackTraces = false) {X : xsX} {kIsKept kIsStale hiLatest hiSize scLength scFault scAt scNumber piSegmentsNow enKind enFromX enFromY enToX enToY tiMeetingPairs tiAlongPairs tiSize evSize evCrossings evSegmentsNow grEdges grQueued huSize huBestX huBestY : Int32} {scBytes scTold tiTouching tiLyingAlong evBundle evCrossingOf evEventOf evLeftEvent evRightEvent grDegree grFar grQueue huX huY : Nat → Int32} {enX enY enLower : Int64} {evX evY evLower : Nat → Int64} {S : Nat → xsV} {Rw : va_W} {g0Lx g0Ly g0Rx g0Ry g0Ti : Nat → Int32} {g0Sz : Int32} (hs_0 : S 0 = (g0Lx, g0Ly, g0Rx, g0Ry, g0Ti, g0Sz)) {hist : Nat → xsV} (hs_H : ∀ i, S (4 + i) = hist i) {a0 : Int32} {a1 : Int32} {a2 : Int32} {out : (Int32 × Int32 × Int32 × Int32 × Int32 × Int32 × Int64 × Int64 × Int64 × Int32 × Int32 × Int32 × Int32 × (Nat → Int32) × (Nat → Int32) × Int32 × Int32 × Int32 × (Nat → Int64) × (Nat → Int64) × (Nat → Int64) × (Nat → Int32) × (Nat → Int32) × (Nat → Int32) × (Nat → Int32) × (Nat → Int32) × Int32 × Int32 × Int32 × (Nat → Int32) × Int32 × (Nat → xsV) × (Nat → Int32) × (Nat → Int32) × (Nat → Int32) × (Nat → Int32)) ⊕ (Nat × (Int32 × Int32 × Int32 × Int32 × Int32 × Int64 × Int64 × Int64 × Int32 × Int32 × Int32 × Int32 × (Nat → Int32) × (Nat → Int32) × Int32 × Int32 × Int32 × (Nat → Int64) × (Nat → Int64) × (Nat → Int64) × (Nat → Int32) × (Nat → Int32) × (Nat → Int32) × (Nat → Int32) × (Nat → Int32) × Int32 × Int32 × Int32 × (Nat → Int32) × Int32 × (Nat → xsV) × (Nat → Int32) × (Nat → Int32) × (Nat → Int32) × (Nat → Int32)))} (hf : fX10_move kIsStale hiLatest hiSize piSegmentsNow enKind enX enY enLower enFromX enFromY enToX enToY tiTouching tiLyingAlong tiMeetingPairs tiAlongPairs tiSize evX evY evLower evBundle evCrossingOf evEventOf evLeftEvent evRightEvent evSize evCrossings evSegmentsNow grDegree grEdges hist g0Lx g0Ly g0Rx g0Ry g0Ti g0Sz a0 a1 a2 = some out) : vx_Met l yX10_move (xsWs yX10_move cX10_move 4 (some .int)) { frames := 8, cells := 2, slots := 12, locals := 153 } (xsP X (wK X kIsKept kIsStale hiLatest hiSize scBytes scTold scLength scFault scAt scNumber piSegmentsNow enKind enX enY enLower enFromX enFromY enToX enToY tiTouching tiLyingAlong tiMeetingPairs tiAlongPairs tiSize evX evY evLower evBundle evCrossingOf evEventOf evLeftEvent evRightEvent evSize evCrossings evSegmentsNow grDegree grEdges grFar grQueue grQueued huX huY huSize huBestX huBestY S Rw) [.ref (xsA X 0), .int a0, .int a1, .int a2]) (xsXi X (fun r u => ∃ tt, out = .inl tt ∧ r = tt.1 ∧ u = wK X kIsKept tt.2.1 tt.2.2.1 tt.2.2.2.1 scBytes scTold scLength scFault scAt scNumber tt.2.2.2.2.1 tt.2.2.2.2.2.1 tt.2.2.2.2.2.2.1 tt.2.2.2.2.2.2.2.1 tt.2.2.2.2.2.2.2.2.1 tt.2.2.2.2.2.2.2.2.2.1 tt.2.2.2.2.2.2.2.2.2.2.1 tt.2.2.2.2.2.2.2.2.2.2.2.1 tt.2.2.2.2.2.2.2.2.2.2.2.2.1 tt.2.2.2.2.2.2.2.2.2.2.2.2.2.1 tt.2.2.2.2.2.2.2.2.2.2.2.2.2.2.1 tt.2.2.2.2.2.2.2.2.2.2.2.2.2.2.2.1 tt.2.2.2.2.2.2.2.2.2.2.2.2.2.2.2.2.1 tt.2.2.2.2.2.2.2.2.2.2.2.2.2.2.2.2.2.1 tt.2.2.2.2.2.2.2.2.2.2.2.2.2.2.2.2.2.2.1 tt.2.2.2.2.2.2.2.2.2.2.2.2.2.2.2.2.2.2.2.1 tt.2.2.2.2.2.2.2.2.2.2.2.2.2.2.2.2.2.2.2.2.1 tt.2.2.2.2.2.2.2.2.2.2.2.2.2.2.2.2.2.2.2.2.2.1 tt.2.2.2.2.2.2.2.2.2.2.2.2.2.2.2.2.2.2.2.2.2.2.1 tt.2.2.2.2.2.2.2.2.2.2.2.2.2.2.2.2.2.2.2.2.2.2.2.1 tt.2.2.2.2.2.2.2.2.2.2.2.2.2.2.2.2.2.2.2.2.2.2.2.2.1 tt.2.2.2.2.2.2.2.2.2.2.2.2.2.2.2.2.2.2.2.2.2.2.2.2.2.1 tt.2.2.2.2.2.2.2.2.2.2.2.2.2.2.2.2.2.2.2.2.2.2.2.2.2.2.1 tt.2.2.2.2.2.2.2.2.2.2.2.2.2.2.2.2.2.2.2.2.2.2.2.2.2.2.2.1 tt.2.2.2.2.2.2.2.2.2.2.2.2.2.2.2.2.2.2.2.2.2.2.2.2.2.2.2.2.1 tt.2.2.2.2.2.2.2.2.2.2.2.2.2.2.2.2.2.2.2.2.2.2.2.2.2.2.2.2.2.1 tt.2.2.2.2.2.2.2.2.2.2.2.2.2.2.2.2.2.2.2.2.2.2.2.2.2.2.2.2.2.2.1 grFar grQueue grQueued huX huY huSize huBestX huBestY (xsSu (xsHs S tt.2.2.2.2.2.2.2.2.2.2.2.2.2.2.2.2.2.2.2.2.2.2.2.2.2.2.2.2.2.2.2.1) 0 (tt.2.2.2.2.2.2.2.2.2.2.2.2.2.2.2.2.2.2.2.2.2.2.2.2.2.2.2.2.2.2.2.2.1, tt.2.2.2.2.2.2.2.2.2.2.2.2.2.2.2.2.2.2.2.2.2.2.2.2.2.2.2.2.2.2.2.2.2.1, tt.2.2.2.2.2.2.2.2.2.2.2.2.2.2.2.2.2.2.2.2.2.2.2.2.2.2.2.2.2.2.2.2.2.2.1, tt.2.2.2.2.2.2.2.2.2.2.2.2.2.2.2.2.2.2.2.2.2.2.2.2.2.2.2.2.2.2.2.2.2.2.2, g0Ti, g0Sz)) Rw)) (xsXC X (fun n u => ∃ tt, out = .inr (n, tt) ∧ u = wK X kIsKept tt.1 tt.2.1 tt.2.2.1 scBytes scTold scLength scFault scAt scNumber tt.2.2.2.1 tt.2.2.2.2.1 tt.2.2.2.2.2.1 tt.2.2.2.2.2.2.1 tt.2.2.2.2.2.2.2.1 tt.2.2.2.2.2.2.2.2.1 tt.2.2.2.2.2.2.2.2.2.1 tt.2.2.2.2.2.2.2.2.2.2.1 tt.2.2.2.2.2.2.2.2.2.2.2.1 tt.2.2.2.2.2.2.2.2.2.2.2.2.1 tt.2.2.2.2.2.2.2.2.2.2.2.2.2.1 tt.2.2.2.2.2.2.2.2.2.2.2.2.2.2.1 tt.2.2.2.2.2.2.2.2.2.2.2.2.2.2.2.1 tt.2.2.2.2.2.2.2.2.2.2.2.2.2.2.2.2.1 tt.2.2.2.2.2.2.2.2.2.2.2.2.2.2.2.2.2.1 tt.2.2.2.2.2.2.2.2.2.2.2.2.2.2.2.2.2.2.1 tt.2.2.2.2.2.2.2.2.2.2.2.2.2.2.2.2.2.2.2.1 tt.2.2.2.2.2.2.2.2.2.2.2.2.2.2.2.2.2.2.2.2.1 tt.2.2.2.2.2.2.2.2.2.2.2.2.2.2.2.2.2.2.2.2.2.1 tt.2.2.2.2.2.2.2.2.2.2.2.2.2.2.2.2.2.2.2.2.2.2.1 tt.2.2.2.2.2.2.2.2.2.2.2.2.2.2.2.2.2.2.2.2.2.2.2.1 tt.2.2.2.2.2.2.2.2.2.2.2.2.2.2.2.2.2.2.2.2.2.2.2.2.1 tt.2.2.2.2.2.2.2.2.2.2.2.2.2.2.2.2.2.2.2.2.2.2.2.2.2.1 tt.2.2.2.2.2.2.2.2.2.2.2.2.2.2.2.2.2.2.2.2.2.2.2.2.2.2.1 tt.2.2.2.2.2.2.2.2.2.2.2.2.2.2.2.2.2.2.2.2.2.2.2.2.2.2.2.1 tt.2.2.2.2.2.2.2.2.2.2.2.2.2.2.2.2.2.2.2.2.2.2.2.2.2.2.2.2.1 tt.2.2.2.2.2.2.2.2.2.2.2.2.2.2.2.2.2.2.2.2.2.2.2.2.2.2.2.2.2.1 grFar grQueue grQueued huX huY huSize huBestX huBestY (xsSu (xsHs S tt.2.2.2.2.2.2.2.2.2.2.2.2.2.2.2.2.2.2.2.2.2.2.2.2.2.2.2.2.2.2.1) 0 (tt.2.2.2.2.2.2.2.2.2.2.2.2.2.2.2.2.2.2.2.2.2.2.2.2.2.2.2.2.2.2.2.1, tt.2.2.2.2.2.2.2.2.2.2.2.2.2.2.2.2.2.2.2.2.2.2.2.2.2.2.2.2.2.2.2.2.1, tt.2.2.2.2.2.2.2.2.2.2.2.2.2.2.2.2.2.2.2.2.2.2.2.2.2.2.2.2.2.2.2.2.2.1, tt.2.2.2.2.2.2.2.2.2.2.2.2.2.2.2.2.2.2.2.2.2.2.2.2.2.2.2.2.2.2.2.2.2.2, g0Ti, g0Sz)) Rw)) 2 12 (xsF X) := by
  refine xs_xmet RX10 (by decide) rfl (Nat.le_of_ble_eq_true rfl) ?_
  intro p e s m below meth c ls H locs C hout hP hD hS hr hlk hl
  have hx := C.1
  have hb := C.2.1
  have hl : lv_has ls 4 [(0, .ref (xsA X 0)), (1, .int a0), (2, .int a1), (3, .int a2)] := hl
  obtain ⟨Qq, hQq⟩ : ∃ Qq, Qq = xsXi X (fun r u => ∃ tt, out = .inl tt ∧ r = tt.1 ∧ u = wK X kIsKept tt.2.1 tt.2.2.1 tt.2.2.2.1 scBytes scTold scLength scFault scAt scNumber tt.2.2.2.2.1 tt.2.2.2.2.2.1 tt.2.2.2.2.2.2.1 tt.2.2.2.2.2.2.2.1 tt.2.2.2.2.2.2.2.2.1 tt.2.2.2.2.2.2.2.2.2.1 tt.2.2.2.2.2.2.2.2.2.2.1 tt.2.2.2.2.2.2.2.2.2.2.2.1 tt.2.2.2.2.2.2.2.2.2.2.2.2.1 tt.2.2.2.2.2.2.2.2.2.2.2.2.2.1 tt.2.2.2.2.2.2.2.2.2.2.2.2.2.2.1 tt.2.2.2.2.2.2.2.2.2.2.2.2.2.2.2.1 tt.2.2.2.2.2.2.2.2.2.2.2.2.2.2.2.2.1 tt.2.2.2.2.2.2.2.2.2.2.2.2.2.2.2.2.2.1 tt.2.2.2.2.2.2.2.2.2.2.2.2.2.2.2.2.2.2.1 tt.2.2.2.2.2.2.2.2.2.2.2.2.2.2.2.2.2.2.2.1 tt.2.2.2.2.2.2.2.2.2.2.2.2.2.2.2.2.2.2.2.2.1 tt.2.2.2.2.2.2.2.2.2.2.2.2.2.2.2.2.2.2.2.2.2.1 tt.2.2.2.2.2.2.2.2.2.2.2.2.2.2.2.2.2.2.2.2.2.2.1 tt.2.2.2.2.2.2.2.2.2.2.2.2.2.2.2.2.2.2.2.2.2.2.2.1 tt.2.2.2.2.2.2.2.2.2.2.2.2.2.2.2.2.2.2.2.2.2.2.2.2.1 tt.2.2.2.2.2.2.2.2.2.2.2.2.2.2.2.2.2.2.2.2.2.2.2.2.2.1 tt.2.2.2.2.2.2.2.2.2.2.2.2.2.2.2.2.2.2.2.2.2.2.2.2.2.2.1 tt.2.2.2.2.2.2.2.2.2.2.2.2.2.2.2.2.2.2.2.2.2.2.2.2.2.2.2.1 tt.2.2.2.2.2.2.2.2.2.2.2.2.2.2.2.2.2.2.2.2.2.2.2.2.2.2.2.2.1 tt.2.2.2.2.2.2.2.2.2.2.2.2.2.2.2.2.2.2.2.2.2.2.2.2.2.2.2.2.2.1 tt.2.2.2.2.2.2.2.2.2.2.2.2.2.2.2.2.2.2.2.2.2.2.2.2.2.2.2.2.2.2.1 grFar grQueue grQueued huX huY huSize huBestX huBestY (xsSu (xsHs S tt.2.2.2.2.2.2.2.2.2.2.2.2.2.2.2.2.2.2.2.2.2.2.2.2.2.2.2.2.2.2.2.1) 0 (tt.2.2.2.2.2.2.2.2.2.2.2.2.2.2.2.2.2.2.2.2.2.2.2.2.2.2.2.2.2.2.2.2.1, tt.2.2.2.2.2.2.2.2.2.2.2.2.2.2.2.2.2.2.2.2.2.2.2.2.2.2.2.2.2.2.2.2.2.1, tt.2.2.2.2.2.2.2.2.2.2.2.2.2.2.2.2.2.2.2.2.2.2.2.2.2.2.2.2.2.2.2.2.2.2.1, tt.2.2.2.2.2.2.2.2.2.2.2.2.2.2.2.2.2.2.2.2.2.2.2.2.2.2.2.2.2.2.2.2.2.2.2, g0Ti, g0Sz)) Rw) := ⟨_, rfl⟩
  rw [← hQq]
  obtain ⟨Xq, hXq⟩ : ∃ Xq, Xq = xsXC X (fun n u => ∃ tt, out = .inr (n, tt) ∧ u = wK X kIsKept tt.1 tt.2.1 tt.2.2.1 scBytes scTold scLength scFault scAt scNumber tt.2.2.2.1 tt.2.2.2.2.1 tt.2.2.2.2.2.1 tt.2.2.2.2.2.2.1 tt.2.2.2.2.2.2.2.1 tt.2.2.2.2.2.2.2.2.1 tt.2.2.2.2.2.2.2.2.2.1 tt.2.2.2.2.2.2.2.2.2.2.1 tt.2.2.2.2.2.2.2.2.2.2.2.1 tt.2.2.2.2.2.2.2.2.2.2.2.2.1 tt.2.2.2.2.2.2.2.2.2.2.2.2.2.1 tt.2.2.2.2.2.2.2.2.2.2.2.2.2.2.1 tt.2.2.2.2.2.2.2.2.2.2.2.2.2.2.2.1 tt.2.2.2.2.2.2.2.2.2.2.2.2.2.2.2.2.1 tt.2.2.2.2.2.2.2.2.2.2.2.2.2.2.2.2.2.1 tt.2.2.2.2.2.2.2.2.2.2.2.2.2.2.2.2.2.2.1 tt.2.2.2.2.2.2.2.2.2.2.2.2.2.2.2.2.2.2.2.1 tt.2.2.2.2.2.2.2.2.2.2.2.2.2.2.2.2.2.2.2.2.1 tt.2.2.2.2.2.2.2.2.2.2.2.2.2.2.2.2.2.2.2.2.2.1 tt.2.2.2.2.2.2.2.2.2.2.2.2.2.2.2.2.2.2.2.2.2.2.1 tt.2.2.2.2.2.2.2.2.2.2.2.2.2.2.2.2.2.2.2.2.2.2.2.1 tt.2.2.2.2.2.2.2.2.2.2.2.2.2.2.2.2.2.2.2.2.2.2.2.2.1 tt.2.2.2.2.2.2.2.2.2.2.2.2.2.2.2.2.2.2.2.2.2.2.2.2.2.1 tt.2.2.2.2.2.2.2.2.2.2.2.2.2.2.2.2.2.2.2.2.2.2.2.2.2.2.1 tt.2.2.2.2.2.2.2.2.2.2.2.2.2.2.2.2.2.2.2.2.2.2.2.2.2.2.2.1 tt.2.2.2.2.2.2.2.2.2.2.2.2.2.2.2.2.2.2.2.2.2.2.2.2.2.2.2.2.1 tt.2.2.2.2.2.2.2.2.2.2.2.2.2.2.2.2.2.2.2.2.2.2.2.2.2.2.2.2.2.1 grFar grQueue grQueued huX huY huSize huBestX huBestY (xsSu (xsHs S tt.2.2.2.2.2.2.2.2.2.2.2.2.2.2.2.2.2.2.2.2.2.2.2.2.2.2.2.2.2.2.1) 0 (tt.2.2.2.2.2.2.2.2.2.2.2.2.2.2.2.2.2.2.2.2.2.2.2.2.2.2.2.2.2.2.2.1, tt.2.2.2.2.2.2.2.2.2.2.2.2.2.2.2.2.2.2.2.2.2.2.2.2.2.2.2.2.2.2.2.2.1, tt.2.2.2.2.2.2.2.2.2.2.2.2.2.2.2.2.2.2.2.2.2.2.2.2.2.2.2.2.2.2.2.2.2.1, tt.2.2.2.2.2.2.2.2.2.2.2.2.2.2.2.2.2.2.2.2.2.2.2.2.2.2.2.2.2.2.2.2.2.2, g0Ti, g0Sz)) Rw) := ⟨_, rfl⟩
  rw [← hXq]
  unfold fX10_move at hf
  refine lv_aload_n hx hb dX10_move_0 rfl (lv_at hl 0 rfl) ?_
  refine lv_iload_n hx hb dX10_move_1 rfl (lv_at hl 1 rfl) ?_
  replace hf := xsBd_use hf
  obtain ⟨o1, h2, hf⟩ := hf
  refine xs_xcallv hS (xs_xrunV (As := [.int a0]) C (mX10_checkSegment l hst hs_0 h2) w_1018 w_1020 w_28 w_105 w_1021 hd_X10_checkSegment ⟨rfl, rfl, Nat.le_of_ble_eq_true rfl, Nat.le_of_ble_eq_true rfl, Nat.le_of_ble_eq_true rfl, Nat.le_of_ble_eq_true rfl⟩ hP hD hS lk_X10 rfl hl.1 rfl (Nat.le_of_ble_eq_true rfl) dX10_move_2) (fun n u q H locs hpx hP hD hS hq => ?_) (fun u H locs hp hP hD hS => ?_)
  · obtain ⟨tx, e1, e2⟩ := hpx
    subst e1
    subst e2
    have ho := Option.some.inj hf
    subst ho
    rw [hXq]
    rw [← xsHs_selfH hs_H] at hP hD
    rw [← xsSu_self ((xsHs_lt (by decide)).trans (hs_0))] at hP hD
    exact xs_xpass hlk hout ⟨_, rfl, rfl⟩ hP hD hS hq (Nat.le_of_ble_eq_true rfl) (Nat.le_of_ble_eq_true rfl)
  obtain ⟨v3, e1, e3⟩ := hp
  subst e1
  subst e3
  replace hf := xsTh_use hf
  refine W.widen (k := 1) (n := 6) (Nat.le_refl _) (Nat.le_refl _) ?_
  refine lv_aload_n hx hb dX10_move_5 rfl (lv_at hl 0 rfl) ?_
  refine xg_X10_10 C hP dX10_move_6 ?_
  refine lv_iload_n hx hb dX10_move_9 rfl (lv_at hl 1 rfl) ?_
  refine lv_iload_n hx hb dX10_move_10 rfl (lv_at hl 2 rfl) ?_
  refine lv_i2l hx hb dX10_move_11 rfl ?_
  refine lv_iload_n hx hb dX10_move_12 rfl (lv_at hl 3 rfl) ?_
  refine lv_i2l hx hb dX10_move_13 rfl ?_
  replace hf := xsBd_use hf
  obtain ⟨o4, h5, hf⟩ := hf
  refine xs_calli hS (xs_runV (As := [.int a0, .long a1.toInt64, .long a2.toInt64]) C (mX7_canShift l (js := 0) (by decide) hs_0 h5) w_1049 w_885 w_886 w_106 w_887 hd_X7_canShift ⟨rfl, rfl, Nat.le_of_ble_eq_true rfl, Nat.le_of_ble_eq_true rfl, Nat.le_of_ble_eq_true rfl, Nat.le_of_ble_eq_true rfl⟩ hP hD hS (xs_lkS (by decide)) rfl hl.1 rfl (Nat.le_of_ble_eq_true rfl) dX10_move_14) (fun H locs hP hD hS => ?_)
  refine lv_if_ne (tgt := 30) hx hb dX10_move_17 (by decide) (fun c12 => ?_) (fun c12 => ?_)
  · replace hf := xsBr_f c12 hf
    refine lv_aload_n hx hb dX10_move_30 rfl (lv_at hl 0 rfl) ?_
    replace hf := xsBd_use hf
    obtain ⟨o6, h7, hf⟩ := hf
    refine xs_callv hS (xs_runV (As := []) C (mX10_remember l hs_0 hs_H h7) w_508 w_510 w_0 w_105 w_511 hd_X10_remember ⟨rfl, rfl, Nat.le_of_ble_eq_true rfl, Nat.le_of_ble_eq_true rfl, Nat.le_of_ble_eq_true rfl, Nat.le_of_ble_eq_true rfl⟩ hP hD hS lk_X10 rfl hl.1 rfl (Nat.le_of_ble_eq_true rfl) dX10_move_31) (fun H locs hP hD hS => ?_)
    refine lv_aload_n hx hb dX10_move_34 rfl (lv_at hl 0 rfl) ?_
    refine xg_X10_10 C hP dX10_move_35 ?_
    refine lv_iload_n hx hb dX10_move_38 rfl (lv_at hl 1 rfl) ?_
    refine lv_iload_n hx hb dX10_move_39 rfl (lv_at hl 2 rfl) ?_
    refine lv_iload_n hx hb dX10_move_40 rfl (lv_at hl 3 rfl) ?_
    replace hf := xsBd_use hf
    obtain ⟨o8, h9, hf⟩ := hf
    refine xs_callv hS (xs_runV (As := [.int a0, .int a1, .int a2]) C (mX7_shift l (js := 0) (by decide) ((xsHs_lt (by decide)).trans (hs_0)) h9) w_1051 w_894 w_895 w_106 w_896 hd_X7_shift ⟨rfl, rfl, Nat.le_of_ble_eq_true rfl, Nat.le_of_ble_eq_true rfl, Nat.le_of_ble_eq_true rfl, Nat.le_of_ble_eq_true rfl⟩ hP hD hS (xs_lkS (by decide)) rfl hl.1 rfl (Nat.le_of_ble_eq_true rfl) dX10_move_41) (fun H locs hP hD hS => ?_)
    refine lv_aload_n hx hb dX10_move_44 rfl (lv_at hl 0 rfl) ?_
    replace hf := xsBd_use hf
    obtain ⟨o10, h11, hf⟩ := hf
    refine xs_callr hS (xs_runV (As := []) C (mX10_drawn l (xsSu_eq _ _ _) h11) w_535 w_537 w_2 w_105 w_538 hd_X10_drawn ⟨rfl, rfl, Nat.le_of_ble_eq_true rfl, Nat.le_of_ble_eq_true rfl, Nat.le_of_ble_eq_true rfl, Nat.le_of_ble_eq_true rfl⟩ hP hD hS lk_X10 rfl hl.1 rfl (Nat.le_of_ble_eq_true rfl) dX10_move_45) (fun H locs hP hD hS => ?_)
    refine xg_X10_129 C hP dX10_move_48 ?_
    refine xg_X10_133 C hP dX10_move_51 ?_
    have ho := Option.some.inj hf
    subst ho
    rw [hQq]
    exact xs_xiret C hr hlk ⟨_, rfl, rfl, rfl⟩ hP hD hS (Nat.le_of_ble_eq_true rfl) (Nat.le_of_ble_eq_true rfl) dX10_move_54
  · replace hf := xsBr_t c12 hf
    have ho := Option.some.inj hf
    subst ho
    rw [hXq]
    rw [← xsHs_selfH hs_H] at hP hD
    rw [← xsSu_self ((xsHs_lt (by decide)).trans (hs_0))] at hP hD
    obtain ⟨sa, hsa⟩ := C.2.2.2.2.2.2.2.2.2.1.1.2.2.2.2.2.1
    exact xs_thr 1 hst C (by decide) w_907 w_123 hsa xsBad1 hP hD hS hl.1 dX10_move_20 dX10_move_23 dX10_move_24 dX10_move_26 dX10_move_29 hout ⟨Nat.le_of_ble_eq_true rfl, Nat.le_of_ble_eq_true rfl, Nat.le_of_ble_eq_true rfl, Nat.le_of_ble_eq_true rfl⟩ hlk (Nat.le_of_ble_eq_true rfl) (Nat.le_of_ble_eq_true rfl) ⟨_, rfl, rfl⟩
set_option maxRecDepth 100000 in
set_option maxHeartbeats 8000000 in
theorem mX10_tint (l : Launch) (hst : l.stackTraces = false) {X : xsX} {kIsKept kIsStale hiLatest hiSize scLength scFault scAt scNumber piSegmentsNow enKind enFromX enFromY enToX enToY tiMeetingPairs tiAlongPairs tiSize evSize evCrossings evSegmentsNow grEdges grQueued huSize huBestX huBestY : Int32} {scBytes scTold tiTouching tiLyingAlong evBundle evCrossingOf evEventOf evLeftEvent evRightEvent grDegree grFar grQueue huX huY : Nat → Int32} {enX enY enLower : Int64} {evX evY evLower : Nat → Int64} {S : Nat → xsV} {Rw : va_W} {g0Lx g0Ly g0Rx g0Ry g0Ti : Nat → Int32} {g0Sz : Int32} (hs_0 : S 0 = (g0Lx, g0Ly, g0Rx, g0Ry, g0Ti, g0Sz)) {hist : Nat → xsV} (hs_H : ∀ i, S (4 + i) = hist i) {a0 : Int32} {a1 : Int32} {out : (Int32 × Int32 × Int32 × Int32 × (Nat → xsV) × (Nat → Int32)) ⊕ (Nat × (Int32 × Int32 × Int32 × (Nat → xsV) × (Nat → Int32)))} (hf : fX10_tint kIsStale hiLatest hiSize hist g0Lx g0Ly g0Rx g0Ry g0Ti g0Sz a0 a1 = some out) : vx_Met l yX10_tint (xsWs yX10_tint cX10_tint 4 (some .int)) { frames := 8, cells := 2, slots := 12, locals := 132 } (xsP X (wK X kIsKept kIsStale hiLatest hiSize scBytes scTold scLength scFault scAt scNumber piSegmentsNow enKind enX enY enLower enFromX enFromY enToX enToY tiTouching tiLyingAlong tiMeetingPairs tiAlongPairs tiSize evX evY evLower evBundle evCrossingOf evEventOf evLeftEvent evRightEvent evSize evCrossings evSegmentsNow grDegree grEdges grFar grQueue grQueued huX huY huSize huBestX huBestY S Rw) [.ref (xsA X 0), .int a0, .int a1]) (xsXi X (fun r u => ∃ tt, out = .inl tt ∧ r = tt.1 ∧ u = wK X kIsKept tt.2.1 tt.2.2.1 tt.2.2.2.1 scBytes scTold scLength scFault scAt scNumber piSegmentsNow enKind enX enY enLower enFromX enFromY enToX enToY tiTouching tiLyingAlong tiMeetingPairs tiAlongPairs tiSize evX evY evLower evBundle evCrossingOf evEventOf evLeftEvent evRightEvent evSize evCrossings evSegmentsNow grDegree grEdges grFar grQueue grQueued huX huY huSize huBestX huBestY (xsSu (xsHs S tt.2.2.2.2.1) 0 (g0Lx, g0Ly, g0Rx, g0Ry, tt.2.2.2.2.2, g0Sz)) Rw)) (xsXC X (fun n u => ∃ tt, out = .inr (n, tt) ∧ u = wK X kIsKept tt.1 tt.2.1 tt.2.2.1 scBytes scTold scLength scFault scAt scNumber piSegmentsNow enKind enX enY enLower enFromX enFromY enToX enToY tiTouching tiLyingAlong tiMeetingPairs tiAlongPairs tiSize evX evY evLower evBundle evCrossingOf evEventOf evLeftEvent evRightEvent evSize evCrossings evSegmentsNow grDegree grEdges grFar grQueue grQueued huX huY huSize huBestX huBestY (xsSu (xsHs S tt.2.2.2.1) 0 (g0Lx, g0Ly, g0Rx, g0Ry, tt.2.2.2.2, g0Sz)) Rw)) 2 12 (xsF X) := by
  refine xs_xmet RX10 (by decide) rfl (Nat.le_of_ble_eq_true rfl) ?_
  intro p e s m below meth c ls H locs C hout hP hD hS hr hlk hl
  have hx := C.1
  have hb := C.2.1
  have hl : lv_has ls 4 [(0, .ref (xsA X 0)), (1, .int a0), (2, .int a1)] := hl
  obtain ⟨Qq, hQq⟩ : ∃ Qq, Qq = xsXi X (fun r u => ∃ tt, out = .inl tt ∧ r = tt.1 ∧ u = wK X kIsKept tt.2.1 tt.2.2.1 tt.2.2.2.1 scBytes scTold scLength scFault scAt scNumber piSegmentsNow enKind enX enY enLower enFromX enFromY enToX enToY tiTouching tiLyingAlong tiMeetingPairs tiAlongPairs tiSize evX evY evLower evBundle evCrossingOf evEventOf evLeftEvent evRightEvent evSize evCrossings evSegmentsNow grDegree grEdges grFar grQueue grQueued huX huY huSize huBestX huBestY (xsSu (xsHs S tt.2.2.2.2.1) 0 (g0Lx, g0Ly, g0Rx, g0Ry, tt.2.2.2.2.2, g0Sz)) Rw) := ⟨_, rfl⟩
  rw [← hQq]
  obtain ⟨Xq, hXq⟩ : ∃ Xq, Xq = xsXC X (fun n u => ∃ tt, out = .inr (n, tt) ∧ u = wK X kIsKept tt.1 tt.2.1 tt.2.2.1 scBytes scTold scLength scFault scAt scNumber piSegmentsNow enKind enX enY enLower enFromX enFromY enToX enToY tiTouching tiLyingAlong tiMeetingPairs tiAlongPairs tiSize evX evY evLower evBundle evCrossingOf evEventOf evLeftEvent evRightEvent evSize evCrossings evSegmentsNow grDegree grEdges grFar grQueue grQueued huX huY huSize huBestX huBestY (xsSu (xsHs S tt.2.2.2.1) 0 (g0Lx, g0Ly, g0Rx, g0Ry, tt.2.2.2.2, g0Sz)) Rw) := ⟨_, rfl⟩
  rw [← hXq]
  unfold fX10_tint at hf
  refine lv_aload_n hx hb dX10_tint_0 rfl (lv_at hl 0 rfl) ?_
  refine lv_iload_n hx hb dX10_tint_1 rfl (lv_at hl 1 rfl) ?_
  replace hf := xsBd_use hf
  obtain ⟨o1, h2, hf⟩ := hf
  refine xs_xcallv hS (xs_xrunV (As := [.int a0]) C (mX10_checkSegment l hst hs_0 h2) w_1018 w_1020 w_28 w_105 w_1021 hd_X10_checkSegment ⟨rfl, rfl, Nat.le_of_ble_eq_true rfl, Nat.le_of_ble_eq_true rfl, Nat.le_of_ble_eq_true rfl, Nat.le_of_ble_eq_true rfl⟩ hP hD hS lk_X10 rfl hl.1 rfl (Nat.le_of_ble_eq_true rfl) dX10_tint_2) (fun n u q H locs hpx hP hD hS hq => ?_) (fun u H locs hp hP hD hS => ?_)
  · obtain ⟨tx, e1, e2⟩ := hpx
    subst e1
    subst e2
    have ho := Option.some.inj hf
    subst ho
    rw [hXq]
    rw [← xsHs_selfH hs_H] at hP hD
    rw [← xsSu_self ((xsHs_lt (by decide)).trans (hs_0))] at hP hD
    exact xs_xpass hlk hout ⟨_, rfl, rfl⟩ hP hD hS hq (Nat.le_of_ble_eq_true rfl) (Nat.le_of_ble_eq_true rfl)
  obtain ⟨v3, e1, e3⟩ := hp
  subst e1
  subst e3
  replace hf := xsTh_use hf
  refine W.widen (k := 1) (n := 6) (Nat.le_refl _) (Nat.le_refl _) ?_
  refine lv_iload_n hx hb dX10_tint_5 rfl (lv_at hl 2 rfl) ?_
  replace hf := xsBd_use hf
  obtain ⟨o4, h5, hf⟩ := hf
  refine xs_xcallv hS (xs_xrunS (As := [.int a1]) C (mX10_checkTint l hst  h5) w_988 w_989 w_105 w_990 hd_X10_checkTint ⟨rfl, rfl, Nat.le_of_ble_eq_true rfl, Nat.le_of_ble_eq_true rfl, Nat.le_of_ble_eq_true rfl, Nat.le_of_ble_eq_true rfl⟩ hP hD hS hl.1 rfl (Nat.le_of_ble_eq_true rfl) dX10_tint_6) (fun n u q H locs hpx hP hD hS hq => ?_) (fun u H locs hp hP hD hS => ?_)
  · obtain ⟨tx, e1, e2⟩ := hpx
    subst e1
    subst e2
    have ho := Option.some.inj hf
    subst ho
    rw [hXq]
    rw [← xsHs_selfH hs_H] at hP hD
    rw [← xsSu_self ((xsHs_lt (by decide)).trans (hs_0))] at hP hD
    exact xs_xpass hlk hout ⟨_, rfl, rfl⟩ hP hD hS hq (Nat.le_of_ble_eq_true rfl) (Nat.le_of_ble_eq_true rfl)
  obtain ⟨v6, e1, e3⟩ := hp
  subst e1
  subst e3
  replace hf := xsTh_use hf
  refine W.widen (k := 2) (n := 12) (Nat.le_refl _) (Nat.le_refl _) ?_
  refine lv_aload_n hx hb dX10_tint_9 rfl (lv_at hl 0 rfl) ?_
  replace hf := xsBd_use hf
  obtain ⟨o7, h8, hf⟩ := hf
  refine xs_callv hS (xs_runV (As := []) C (mX10_remember l hs_0 hs_H h8) w_508 w_510 w_0 w_105 w_511 hd_X10_remember ⟨rfl, rfl, Nat.le_of_ble_eq_true rfl, Nat.le_of_ble_eq_true rfl, Nat.le_of_ble_eq_true rfl, Nat.le_of_ble_eq_true rfl⟩ hP hD hS lk_X10 rfl hl.1 rfl (Nat.le_of_ble_eq_true rfl) dX10_tint_10) (fun H locs hP hD hS => ?_)
  refine lv_aload_n hx hb dX10_tint_13 rfl (lv_at hl 0 rfl) ?_
  refine xg_X10_10 C hP dX10_tint_14 ?_
  refine xg_X10_151 (j := 0) (by decide) C hP dX10_tint_17 ?_
  refine lv_iload_n hx hb dX10_tint_20 rfl (lv_at hl 1 rfl) ?_
  replace hf := xsCk_use hf
  obtain ⟨h9, hf⟩ := hf
  refine xl_s4 (j := 0) (by decide) ((xsHs_lt (by decide)).trans (hs_0)) C hP h9 dX10_tint_21 ?_
  refine lv_topi (fun x10 ex10 => ?_)
  replace hf := xsLt_use ex10 hf
  refine lv_istore_n (lv' := [(3, .int x10), (0, .ref (xsA X 0)), (1, .int a0), (2, .int a1)]) hx hb dX10_tint_22 rfl hl (by decide) rfl (fun ls hl => ?_)
  refine lv_aload_n hx hb dX10_tint_23 rfl (lv_at hl 1 rfl) ?_
  refine xg_X10_10 C hP dX10_tint_24 ?_
  refine xg_X10_151 (j := 0) (by decide) C hP dX10_tint_27 ?_
  refine lv_iload_n hx hb dX10_tint_30 rfl (lv_at hl 2 rfl) ?_
  refine lv_iload_n hx hb dX10_tint_31 rfl (lv_at hl 3 rfl) ?_
  replace hf := xsCk_use hf
  obtain ⟨h11, hf⟩ := hf
  refine xs_s4 (j := 0) (by decide) ((xsHs_lt (by decide)).trans (hs_0)) (fun f' => (xsSu (xsHs S o7.2.2.2) 0 (g0Lx, g0Ly, g0Rx, g0Ry, f', g0Sz))) (fun f' => rfl) C hP hD hS h11 dX10_tint_32 (fun f12 ef12 H locs hP hD hS hz => ?_)
  clear hz
  replace hf := xsLt_use ef12 hf
  refine lv_iload_n hx hb dX10_tint_33 rfl (lv_at hl 0 rfl) ?_
  have ho := Option.some.inj hf
  subst ho
  rw [hQq]
  exact xs_xiret C hr hlk ⟨_, rfl, rfl, rfl⟩ hP hD hS (Nat.le_of_ble_eq_true rfl) (Nat.le_of_ble_eq_true rfl) dX10_tint_34
set_option maxRecDepth 100000 in
set_option maxHeartbeats 8000000 in
theorem mX10_turn (l : Launch) {X : xsX} {kIsKept kIsStale hiLatest hiSize scLength scFault scAt scNumber piSegmentsNow enKind enFromX enFromY enToX enToY tiMeetingPairs tiAlongPairs tiSize evSize evCrossings evSegmentsNow grEdges grQueued huSize huBestX huBestY : Int32} {scBytes scTold tiTouching tiLyingAlong evBundle evCrossingOf evEventOf evLeftEvent evRightEvent grDegree grFar grQueue huX huY : Nat → Int32} {enX enY enLower : Int64} {evX evY evLower : Nat → Int64} {S : Nat → xsV} {Rw : va_W} {g0Lx g0Ly g0Rx g0Ry g0Ti : Nat → Int32} {g0Sz : Int32} (hs_0 : S 0 = (g0Lx, g0Ly, g0Rx, g0Ry, g0Ti, g0Sz)) {hist : Nat → xsV} (hs_H : ∀ i, S (4 + i) = hist i) {out : Int32 × Int32 × Int32 × Int32 × Int32 × Int32 × Int64 × Int64 × Int64 × Int32 × Int32 × Int32 × Int32 × (Nat → Int32) × (Nat → Int32) × Int32 × Int32 × Int32 × (Nat → Int64) × (Nat → Int64) × (Nat → Int64) × (Nat → Int32) × (Nat → Int32) × (Nat → Int32) × (Nat → Int32) × (Nat → Int32) × Int32 × Int32 × Int32 × (Nat → Int32) × Int32 × (Nat → xsV) × (Nat → Int32) × (Nat → Int32) × (Nat → Int32) × (Nat → Int32)} (hf : fX10_turn kIsStale hiLatest hiSize piSegmentsNow enKind enX enY enLower enFromX enFromY enToX enToY tiTouching tiLyingAlong tiMeetingPairs tiAlongPairs tiSize evX evY evLower evBundle evCrossingOf evEventOf evLeftEvent evRightEvent evSize evCrossings evSegmentsNow grDegree grEdges hist g0Lx g0Ly g0Rx g0Ry g0Ti g0Sz = some out) : Met l yX10_turn (xsWs yX10_turn cX10_turn 1 (some .int)) { frames := 6, cells := 0, slots := 0, locals := 153 } (xsP X (wK X kIsKept kIsStale hiLatest hiSize scBytes scTold scLength scFault scAt scNumber piSegmentsNow enKind enX enY enLower enFromX enFromY enToX enToY tiTouching tiLyingAlong tiMeetingPairs tiAlongPairs tiSize evX evY evLower evBundle evCrossingOf evEventOf evLeftEvent evRightEvent evSize evCrossings evSegmentsNow grDegree grEdges grFar grQueue grQueued huX huY huSize huBestX huBestY S Rw) [.ref (xsA X 0)]) (xsQi X out.1 (wK X kIsKept out.2.1 out.2.2.1 out.2.2.2.1 scBytes scTold scLength scFault scAt scNumber out.2.2.2.2.1 out.2.2.2.2.2.1 out.2.2.2.2.2.2.1 out.2.2.2.2.2.2.2.1 out.2.2.2.2.2.2.2.2.1 out.2.2.2.2.2.2.2.2.2.1 out.2.2.2.2.2.2.2.2.2.2.1 out.2.2.2.2.2.2.2.2.2.2.2.1 out.2.2.2.2.2.2.2.2.2.2.2.2.1 out.2.2.2.2.2.2.2.2.2.2.2.2.2.1 out.2.2.2.2.2.2.2.2.2.2.2.2.2.2.1 out.2.2.2.2.2.2.2.2.2.2.2.2.2.2.2.1 out.2.2.2.2.2.2.2.2.2.2.2.2.2.2.2.2.1 out.2.2.2.2.2.2.2.2.2.2.2.2.2.2.2.2.2.1 out.2.2.2.2.2.2.2.2.2.2.2.2.2.2.2.2.2.2.1 out.2.2.2.2.2.2.2.2.2.2.2.2.2.2.2.2.2.2.2.1 out.2.2.2.2.2.2.2.2.2.2.2.2.2.2.2.2.2.2.2.2.1 out.2.2.2.2.2.2.2.2.2.2.2.2.2.2.2.2.2.2.2.2.2.1 out.2.2.2.2.2.2.2.2.2.2.2.2.2.2.2.2.2.2.2.2.2.2.1 out.2.2.2.2.2.2.2.2.2.2.2.2.2.2.2.2.2.2.2.2.2.2.2.1 out.2.2.2.2.2.2.2.2.2.2.2.2.2.2.2.2.2.2.2.2.2.2.2.2.1 out.2.2.2.2.2.2.2.2.2.2.2.2.2.2.2.2.2.2.2.2.2.2.2.2.2.1 out.2.2.2.2.2.2.2.2.2.2.2.2.2.2.2.2.2.2.2.2.2.2.2.2.2.2.1 out.2.2.2.2.2.2.2.2.2.2.2.2.2.2.2.2.2.2.2.2.2.2.2.2.2.2.2.1 out.2.2.2.2.2.2.2.2.2.2.2.2.2.2.2.2.2.2.2.2.2.2.2.2.2.2.2.2.1 out.2.2.2.2.2.2.2.2.2.2.2.2.2.2.2.2.2.2.2.2.2.2.2.2.2.2.2.2.2.1 out.2.2.2.2.2.2.2.2.2.2.2.2.2.2.2.2.2.2.2.2.2.2.2.2.2.2.2.2.2.2.1 grFar grQueue grQueued huX huY huSize huBestX huBestY (xsSu (xsHs S out.2.2.2.2.2.2.2.2.2.2.2.2.2.2.2.2.2.2.2.2.2.2.2.2.2.2.2.2.2.2.2.1) 0 (out.2.2.2.2.2.2.2.2.2.2.2.2.2.2.2.2.2.2.2.2.2.2.2.2.2.2.2.2.2.2.2.2.1, out.2.2.2.2.2.2.2.2.2.2.2.2.2.2.2.2.2.2.2.2.2.2.2.2.2.2.2.2.2.2.2.2.2.1, out.2.2.2.2.2.2.2.2.2.2.2.2.2.2.2.2.2.2.2.2.2.2.2.2.2.2.2.2.2.2.2.2.2.2.1, out.2.2.2.2.2.2.2.2.2.2.2.2.2.2.2.2.2.2.2.2.2.2.2.2.2.2.2.2.2.2.2.2.2.2.2, g0Ti, g0Sz)) Rw)) 0 0 (xsF X) := by
  refine xs_meth RX10 (by decide) rfl (Nat.le_of_ble_eq_true rfl) ?_
  intro p e s m below meth c ls H locs C hP hD hS hr hlk hl
  have hx := C.1
  have hb := C.2.1
  have hl : lv_has ls 1 [(0, .ref (xsA X 0))] := hl
  obtain ⟨Qq, hQq⟩ : ∃ Qq, Qq = xsQi X out.1 (wK X kIsKept out.2.1 out.2.2.1 out.2.2.2.1 scBytes scTold scLength scFault scAt scNumber out.2.2.2.2.1 out.2.2.2.2.2.1 out.2.2.2.2.2.2.1 out.2.2.2.2.2.2.2.1 out.2.2.2.2.2.2.2.2.1 out.2.2.2.2.2.2.2.2.2.1 out.2.2.2.2.2.2.2.2.2.2.1 out.2.2.2.2.2.2.2.2.2.2.2.1 out.2.2.2.2.2.2.2.2.2.2.2.2.1 out.2.2.2.2.2.2.2.2.2.2.2.2.2.1 out.2.2.2.2.2.2.2.2.2.2.2.2.2.2.1 out.2.2.2.2.2.2.2.2.2.2.2.2.2.2.2.1 out.2.2.2.2.2.2.2.2.2.2.2.2.2.2.2.2.1 out.2.2.2.2.2.2.2.2.2.2.2.2.2.2.2.2.2.1 out.2.2.2.2.2.2.2.2.2.2.2.2.2.2.2.2.2.2.1 out.2.2.2.2.2.2.2.2.2.2.2.2.2.2.2.2.2.2.2.1 out.2.2.2.2.2.2.2.2.2.2.2.2.2.2.2.2.2.2.2.2.1 out.2.2.2.2.2.2.2.2.2.2.2.2.2.2.2.2.2.2.2.2.2.1 out.2.2.2.2.2.2.2.2.2.2.2.2.2.2.2.2.2.2.2.2.2.2.1 out.2.2.2.2.2.2.2.2.2.2.2.2.2.2.2.2.2.2.2.2.2.2.2.1 out.2.2.2.2.2.2.2.2.2.2.2.2.2.2.2.2.2.2.2.2.2.2.2.2.1 out.2.2.2.2.2.2.2.2.2.2.2.2.2.2.2.2.2.2.2.2.2.2.2.2.2.1 out.2.2.2.2.2.2.2.2.2.2.2.2.2.2.2.2.2.2.2.2.2.2.2.2.2.2.1 out.2.2.2.2.2.2.2.2.2.2.2.2.2.2.2.2.2.2.2.2.2.2.2.2.2.2.2.1 out.2.2.2.2.2.2.2.2.2.2.2.2.2.2.2.2.2.2.2.2.2.2.2.2.2.2.2.2.1 out.2.2.2.2.2.2.2.2.2.2.2.2.2.2.2.2.2.2.2.2.2.2.2.2.2.2.2.2.2.1 out.2.2.2.2.2.2.2.2.2.2.2.2.2.2.2.2.2.2.2.2.2.2.2.2.2.2.2.2.2.2.1 grFar grQueue grQueued huX huY huSize huBestX huBestY (xsSu (xsHs S out.2.2.2.2.2.2.2.2.2.2.2.2.2.2.2.2.2.2.2.2.2.2.2.2.2.2.2.2.2.2.2.1) 0 (out.2.2.2.2.2.2.2.2.2.2.2.2.2.2.2.2.2.2.2.2.2.2.2.2.2.2.2.2.2.2.2.2.1, out.2.2.2.2.2.2.2.2.2.2.2.2.2.2.2.2.2.2.2.2.2.2.2.2.2.2.2.2.2.2.2.2.2.1, out.2.2.2.2.2.2.2.2.2.2.2.2.2.2.2.2.2.2.2.2.2.2.2.2.2.2.2.2.2.2.2.2.2.2.1, out.2.2.2.2.2.2.2.2.2.2.2.2.2.2.2.2.2.2.2.2.2.2.2.2.2.2.2.2.2.2.2.2.2.2.2, g0Ti, g0Sz)) Rw) := ⟨_, rfl⟩
  rw [← hQq]
  unfold fX10_turn at hf
  refine lv_aload_n hx hb dX10_turn_0 rfl (lv_at hl 0 rfl) ?_
  replace hf := xsBd_use hf
  obtain ⟨o1, h2, hf⟩ := hf
  refine xs_callv hS (xs_runV (As := []) C (mX10_remember l hs_0 hs_H h2) w_508 w_510 w_0 w_105 w_511 hd_X10_remember ⟨rfl, rfl, Nat.le_of_ble_eq_true rfl, Nat.le_of_ble_eq_true rfl, Nat.le_of_ble_eq_true rfl, Nat.le_of_ble_eq_true rfl⟩ hP hD hS lk_X10 rfl hl.1 rfl (Nat.le_of_ble_eq_true rfl) dX10_turn_1) (fun H locs hP hD hS => ?_)
  refine lv_aload_n hx hb dX10_turn_4 rfl (lv_at hl 0 rfl) ?_
  refine xg_X10_10 C hP dX10_turn_5 ?_
  replace hf := xsBd_use hf
  obtain ⟨o3, h4, hf⟩ := hf
  refine xs_callv hS (xs_runV (As := []) C (mX7_rotate l (js := 0) (by decide) ((xsHs_lt (by decide)).trans (hs_0)) h4) w_527 w_528 w_529 w_106 w_530 hd_X7_rotate ⟨rfl, rfl, Nat.le_of_ble_eq_true rfl, Nat.le_of_ble_eq_true rfl, Nat.le_of_ble_eq_true rfl, Nat.le_of_ble_eq_true rfl⟩ hP hD hS (xs_lkS (by decide)) rfl hl.1 rfl (Nat.le_of_ble_eq_true rfl) dX10_turn_8) (fun H locs hP hD hS => ?_)
  refine lv_aload_n hx hb dX10_turn_11 rfl (lv_at hl 0 rfl) ?_
  replace hf := xsBd_use hf
  obtain ⟨o5, h6, hf⟩ := hf
  refine xs_callr hS (xs_runV (As := []) C (mX10_drawn l (xsSu_eq _ _ _) h6) w_535 w_537 w_2 w_105 w_538 hd_X10_drawn ⟨rfl, rfl, Nat.le_of_ble_eq_true rfl, Nat.le_of_ble_eq_true rfl, Nat.le_of_ble_eq_true rfl, Nat.le_of_ble_eq_true rfl⟩ hP hD hS lk_X10 rfl hl.1 rfl (Nat.le_of_ble_eq_true rfl) dX10_turn_12) (fun H locs hP hD hS => ?_)
  refine xg_X10_129 C hP dX10_turn_15 ?_
  refine xg_X10_158 C hP dX10_turn_18 ?_
  have ho := Option.some.inj hf
  subst ho
  rw [hQq]
  exact xs_iret C hr hlk hP hD hS dX10_turn_21
set_option maxRecDepth 100000 in
set_option maxHeartbeats 8000000 in
theorem mX3_pop (l : Launch) {X : xsX} {kIsKept kIsStale hiLatest hiSize scLength scFault scAt scNumber piSegmentsNow enKind enFromX enFromY enToX enToY tiMeetingPairs tiAlongPairs tiSize evSize evCrossings evSegmentsNow grEdges grQueued huSize huBestX huBestY : Int32} {scBytes scTold tiTouching tiLyingAlong evBundle evCrossingOf evEventOf evLeftEvent evRightEvent grDegree grFar grQueue huX huY : Nat → Int32} {enX enY enLower : Int64} {evX evY evLower : Nat → Int64} {S : Nat → xsV} {Rw : va_W} {out : Int32 × Int32} (hf : fX3_pop hiLatest hiSize = some out) : Met l yX3_pop (xsWs yX3_pop cX3_pop 2 (some (.object "CrossingSweep$Segments"))) { frames := 0, cells := 0, slots := 0, locals := 0 } (xsP X (wK X kIsKept kIsStale hiLatest hiSize scBytes scTold scLength scFault scAt scNumber piSegmentsNow enKind enX enY enLower enFromX enFromY enToX enToY tiTouching tiLyingAlong tiMeetingPairs tiAlongPairs tiSize evX evY evLower evBundle evCrossingOf evEventOf evLeftEvent evRightEvent evSize evCrossings evSegmentsNow grDegree grEdges grFar grQueue grQueued huX huY huSize huBestX huBestY S Rw) [.ref (xsA X 1)]) (xsQr X (xsA X (27 + 6 * (4 + hiLatest.toNatClampNeg))) (wK X kIsKept kIsStale out.1 out.2 scBytes scTold scLength scFault scAt scNumber piSegmentsNow enKind enX enY enLower enFromX enFromY enToX enToY tiTouching tiLyingAlong tiMeetingPairs tiAlongPairs tiSize evX evY evLower evBundle evCrossingOf evEventOf evLeftEvent evRightEvent evSize evCrossings evSegmentsNow grDegree grEdges grFar grQueue grQueued huX huY huSize huBestX huBestY S Rw)) 0 0 (xsF X) := by
  refine xs_meth RX3 (by decide) rfl (Nat.le_of_ble_eq_true rfl) ?_
  intro p e s m below meth c ls H locs C hP hD hS hr hlk hl
  have hx := C.1
  have hb := C.2.1
  have hl : lv_has ls 2 [(0, .ref (xsA X 1))] := hl
  obtain ⟨Qq, hQq⟩ : ∃ Qq, Qq = xsQr X (xsA X (27 + 6 * (4 + hiLatest.toNatClampNeg))) (wK X kIsKept kIsStale out.1 out.2 scBytes scTold scLength scFault scAt scNumber piSegmentsNow enKind enX enY enLower enFromX enFromY enToX enToY tiTouching tiLyingAlong tiMeetingPairs tiAlongPairs tiSize evX evY evLower evBundle evCrossingOf evEventOf evLeftEvent evRightEvent evSize evCrossings evSegmentsNow grDegree grEdges grFar grQueue grQueued huX huY huSize huBestX huBestY S Rw) := ⟨_, rfl⟩
  rw [← hQq]
  unfold fX3_pop at hf
  refine lv_aload_n hx hb dX3_pop_0 rfl (lv_at hl 0 rfl) ?_
  refine xg_X3_11 C hP dX3_pop_1 ?_
  refine lv_aload_n hx hb dX3_pop_4 rfl (lv_at hl 0 rfl) ?_
  refine xg_X3_18 C hP dX3_pop_5 ?_
  replace hf := xsCk_use hf
  obtain ⟨h1, hf⟩ := hf
  refine xl_rows C hP h1 dX3_pop_8 ?_
  refine lv_astore_n (lv' := [(1, .ref (xsA X (27 + 6 * (4 + hiLatest.toNatClampNeg)))), (0, .ref (xsA X 1))]) hx hb dX3_pop_9 rfl hl (by decide) rfl (fun ls hl => ?_)
  refine lv_aload_n hx hb dX3_pop_10 rfl (lv_at hl 1 rfl) ?_
  refine lv_aload_n hx hb dX3_pop_11 rfl (lv_at hl 1 rfl) ?_
  refine xg_X3_18 C hP dX3_pop_12 ?_
  refine lv_bipush (v := (8 : Int32)) hx hb dX3_pop_15 (by decide) ?_
  refine lv_iadd hx hb dX3_pop_17 ?_
  refine lv_iconst (v := (1 : Int32)) hx hb dX3_pop_18 (by decide) ?_
  refine lv_isub hx hb dX3_pop_19 ?_
  refine lv_bipush (v := (8 : Int32)) hx hb dX3_pop_20 (by decide) ?_
  replace hf := xsCk_use hf
  obtain ⟨h2, hf⟩ := hf
  refine lv_irem hx hb dX3_pop_22 h2 ?_
  refine lv_topi (fun x3 ex3 => ?_)
  replace hf := xsLt_use ex3 hf
  refine xp_X3_18 C hP hD hS dX3_pop_23 (fun H locs hP hD hS => ?_)
  refine lv_aload_n hx hb dX3_pop_26 rfl (lv_at hl 1 rfl) ?_
  refine lv_dup hx hb dX3_pop_27 rfl ?_
  refine xg_X3_22 C hP dX3_pop_28 ?_
  refine lv_iconst (v := (1 : Int32)) hx hb dX3_pop_31 (by decide) ?_
  refine lv_isub hx hb dX3_pop_32 ?_
  refine lv_topi (fun x4 ex4 => ?_)
  replace hf := xsLt_use ex4 hf
  refine xp_X3_22 C hP hD hS dX3_pop_33 (fun H locs hP hD hS => ?_)
  refine lv_aload_n hx hb dX3_pop_36 rfl (lv_at hl 0 rfl) ?_
  have ho := Option.some.inj hf
  subst ho
  rw [hQq]
  exact xs_aret C hr hlk hP hD hS dX3_pop_37
set_option maxRecDepth 100000 in
set_option maxHeartbeats 8000000 in
theorem mX10_undo (l : Launch) (hst : l.stackTraces = false) {X : xsX} {kIsKept kIsStale hiLatest hiSize scLength scFault scAt scNumber piSegmentsNow enKind enFromX enFromY enToX enToY tiMeetingPairs tiAlongPairs tiSize evSize evCrossings evSegmentsNow grEdges grQueued huSize huBestX huBestY : Int32} {scBytes scTold tiTouching tiLyingAlong evBundle evCrossingOf evEventOf evLeftEvent evRightEvent grDegree grFar grQueue huX huY : Nat → Int32} {enX enY enLower : Int64} {evX evY evLower : Nat → Int64} {S : Nat → xsV} {Rw : va_W} {g0Lx g0Ly g0Rx g0Ry g0Ti : Nat → Int32} {g0Sz : Int32} (hs_0 : S 0 = (g0Lx, g0Ly, g0Rx, g0Ry, g0Ti, g0Sz)) {hist : Nat → xsV} (hs_H : ∀ i, S (4 + i) = hist i) {out : (Int32 × Int32 × Int32 × Int32 × (Nat → Int32) × (Nat → Int32) × (Nat → Int32) × (Nat → Int32) × (Nat → Int32) × Int32) ⊕ (Nat × (Int32 × Int32 × Int32 × (Nat → Int32) × (Nat → Int32) × (Nat → Int32) × (Nat → Int32) × (Nat → Int32) × Int32))} (hf : fX10_undo kIsStale hiLatest hiSize hist g0Lx g0Ly g0Rx g0Ry g0Ti g0Sz = some out) : vx_Met l yX10_undo (xsWs yX10_undo cX10_undo 1 (some .int)) { frames := 6, cells := 1, slots := 6, locals := 90 } (xsP X (wK X kIsKept kIsStale hiLatest hiSize scBytes scTold scLength scFault scAt scNumber piSegmentsNow enKind enX enY enLower enFromX enFromY enToX enToY tiTouching tiLyingAlong tiMeetingPairs tiAlongPairs tiSize evX evY evLower evBundle evCrossingOf evEventOf evLeftEvent evRightEvent evSize evCrossings evSegmentsNow grDegree grEdges grFar grQueue grQueued huX huY huSize huBestX huBestY S Rw) [.ref (xsA X 0)]) (xsXi X (fun r u => ∃ tt, out = .inl tt ∧ r = tt.1 ∧ u = wK X kIsKept tt.2.1 tt.2.2.1 tt.2.2.2.1 scBytes scTold scLength scFault scAt scNumber piSegmentsNow enKind enX enY enLower enFromX enFromY enToX enToY tiTouching tiLyingAlong tiMeetingPairs tiAlongPairs tiSize evX evY evLower evBundle evCrossingOf evEventOf evLeftEvent evRightEvent evSize evCrossings evSegmentsNow grDegree grEdges grFar grQueue grQueued huX huY huSize huBestX huBestY (xsSu S 0 (tt.2.2.2.2.1, tt.2.2.2.2.2.1, tt.2.2.2.2.2.2.1, tt.2.2.2.2.2.2.2.1, tt.2.2.2.2.2.2.2.2.1, tt.2.2.2.2.2.2.2.2.2)) Rw)) (xsXC X (fun n u => ∃ tt, out = .inr (n, tt) ∧ u = wK X kIsKept tt.1 tt.2.1 tt.2.2.1 scBytes scTold scLength scFault scAt scNumber piSegmentsNow enKind enX enY enLower enFromX enFromY enToX enToY tiTouching tiLyingAlong tiMeetingPairs tiAlongPairs tiSize evX evY evLower evBundle evCrossingOf evEventOf evLeftEvent evRightEvent evSize evCrossings evSegmentsNow grDegree grEdges grFar grQueue grQueued huX huY huSize huBestX huBestY (xsSu S 0 (tt.2.2.2.1, tt.2.2.2.2.1, tt.2.2.2.2.2.1, tt.2.2.2.2.2.2.1, tt.2.2.2.2.2.2.2.1, tt.2.2.2.2.2.2.2.2)) Rw)) 1 6 (xsF X) := by
  refine xs_xmet RX10 (by decide) rfl (Nat.le_of_ble_eq_true rfl) ?_
  intro p e s m below meth c ls H locs C hout hP hD hS hr hlk hl
  have hx := C.1
  have hb := C.2.1
  have hl : lv_has ls 1 [(0, .ref (xsA X 0))] := hl
  obtain ⟨Qq, hQq⟩ : ∃ Qq, Qq = xsXi X (fun r u => ∃ tt, out = .inl tt ∧ r = tt.1 ∧ u = wK X kIsKept tt.2.1 tt.2.2.1 tt.2.2.2.1 scBytes scTold scLength scFault scAt scNumber piSegmentsNow enKind enX enY enLower enFromX enFromY enToX enToY tiTouching tiLyingAlong tiMeetingPairs tiAlongPairs tiSize evX evY evLower evBundle evCrossingOf evEventOf evLeftEvent evRightEvent evSize evCrossings evSegmentsNow grDegree grEdges grFar grQueue grQueued huX huY huSize huBestX huBestY (xsSu S 0 (tt.2.2.2.2.1, tt.2.2.2.2.2.1, tt.2.2.2.2.2.2.1, tt.2.2.2.2.2.2.2.1, tt.2.2.2.2.2.2.2.2.1, tt.2.2.2.2.2.2.2.2.2)) Rw) := ⟨_, rfl⟩
  rw [← hQq]
  obtain ⟨Xq, hXq⟩ : ∃ Xq, Xq = xsXC X (fun n u => ∃ tt, out = .inr (n, tt) ∧ u = wK X kIsKept tt.1 tt.2.1 tt.2.2.1 scBytes scTold scLength scFault scAt scNumber piSegmentsNow enKind enX enY enLower enFromX enFromY enToX enToY tiTouching tiLyingAlong tiMeetingPairs tiAlongPairs tiSize evX evY evLower evBundle evCrossingOf evEventOf evLeftEvent evRightEvent evSize evCrossings evSegmentsNow grDegree grEdges grFar grQueue grQueued huX huY huSize huBestX huBestY (xsSu S 0 (tt.2.2.2.1, tt.2.2.2.2.1, tt.2.2.2.2.2.1, tt.2.2.2.2.2.2.1, tt.2.2.2.2.2.2.2.1, tt.2.2.2.2.2.2.2.2)) Rw) := ⟨_, rfl⟩
  rw [← hXq]
  unfold fX10_undo at hf
  refine lv_aload_n hx hb dX10_undo_0 rfl (lv_at hl 0 rfl) ?_
  refine xg_X10_25 C hP dX10_undo_1 ?_
  refine xg_X10_159 C hP dX10_undo_4 ?_
  refine lv_if_ne (tgt := 20) hx hb dX10_undo_7 (by decide) (fun c7 => ?_) (fun c7 => ?_)
  · replace hf := xsBr_f c7 hf
    refine lv_aload_n hx hb dX10_undo_20 rfl (lv_at hl 0 rfl) ?_
    refine lv_aload_n hx hb dX10_undo_21 rfl (lv_at hl 0 rfl) ?_
    refine xg_X10_25 C hP dX10_undo_22 ?_
    replace hf := xsBd_use hf
    obtain ⟨o1, h2, hf⟩ := hf
    refine xs_callr hS (xs_runV (As := []) C (mX3_pop l  h2) w_1067 w_1068 w_1069 w_107 w_1070 hd_X3_pop ⟨rfl, rfl, Nat.le_of_ble_eq_true rfl, Nat.le_of_ble_eq_true rfl, Nat.le_of_ble_eq_true rfl, Nat.le_of_ble_eq_true rfl⟩ hP hD hS lk_X3 rfl hl.1 rfl (Nat.le_of_ble_eq_true rfl) dX10_undo_25) (fun H locs hP hD hS => ?_)
    replace hf := xsCk_use hf
    obtain ⟨h3, hf⟩ := hf
    obtain ⟨z4, ez4⟩ : ∃ y : xsV, y = hist hiLatest.toNatClampNeg := ⟨_, rfl⟩
    replace hf := xsLt_use ez4 hf
    replace hf := xsBd_use hf
    obtain ⟨o5, h6, hf⟩ := hf
    refine xs_callv hS (xs_runV (As := [.ref (xsA X (27 + 6 * (4 + hiLatest.toNatClampNeg)))]) C (mX10_become l (jo := (4 + hiLatest.toNatClampNeg)) (xs_in8 h3) (by omega) ((hs_H _).trans ez4.symm) hs_0 h6) w_666 w_668 w_8 w_105 w_669 hd_X10_become ⟨rfl, rfl, Nat.le_of_ble_eq_true rfl, Nat.le_of_ble_eq_true rfl, Nat.le_of_ble_eq_true rfl, Nat.le_of_ble_eq_true rfl⟩ hP hD hS lk_X10 rfl hl.1 rfl (Nat.le_of_ble_eq_true rfl) dX10_undo_28) (fun H locs hP hD hS => ?_)
    refine lv_aload_n hx hb dX10_undo_31 rfl (lv_at hl 0 rfl) ?_
    refine xg_X10_25 C hP dX10_undo_32 ?_
    refine xg_X10_159 C hP dX10_undo_35 ?_
    have ho := Option.some.inj hf
    subst ho
    rw [hQq]
    exact xs_xiret C hr hlk ⟨_, rfl, rfl, rfl⟩ hP hD hS (Nat.le_of_ble_eq_true rfl) (Nat.le_of_ble_eq_true rfl) dX10_undo_38
  · replace hf := xsBr_t c7 hf
    have ho := Option.some.inj hf
    subst ho
    rw [hXq]
    rw [← xsSu_self (hs_0)] at hP hD
    obtain ⟨sa, hsa⟩ := C.2.2.2.2.2.2.2.2.2.1.1.2.2.2.2.2.2.1
    exact xs_thr 2 hst C (by decide) w_993 w_124 hsa xsBad2 hP hD hS hl.1 dX10_undo_10 dX10_undo_13 dX10_undo_14 dX10_undo_16 dX10_undo_19 hout ⟨Nat.le_of_ble_eq_true rfl, Nat.le_of_ble_eq_true rfl, Nat.le_of_ble_eq_true rfl, Nat.le_of_ble_eq_true rfl⟩ hlk (Nat.le_of_ble_eq_true rfl) (Nat.le_of_ble_eq_true rfl) ⟨_, rfl, rfl⟩
set_option maxRecDepth 100000 in
set_option maxHeartbeats 8000000 in
theorem mX10_segment (l : Launch) (hst : l.stackTraces = false) {X : xsX} {kIsKept kIsStale hiLatest hiSize scLength scFault scAt scNumber piSegmentsNow enKind enFromX enFromY enToX enToY tiMeetingPairs tiAlongPairs tiSize evSize evCrossings evSegmentsNow grEdges grQueued huSize huBestX huBestY : Int32} {scBytes scTold tiTouching tiLyingAlong evBundle evCrossingOf evEventOf evLeftEvent evRightEvent grDegree grFar grQueue huX huY : Nat → Int32} {enX enY enLower : Int64} {evX evY evLower : Nat → Int64} {S : Nat → xsV} {Rw : va_W} {g0Lx g0Ly g0Rx g0Ry g0Ti : Nat → Int32} {g0Sz : Int32} (hs_0 : S 0 = (g0Lx, g0Ly, g0Rx, g0Ry, g0Ti, g0Sz)) {a0 : Int32} {a1 : Int32} {out : (Int32 × Int32 × Int32 × Int32 × Int64 × Int64 × Int64 × Int32 × Int32 × Int32 × Int32 × (Nat → Int32) × (Nat → Int32) × Int32 × Int32 × Int32 × (Nat → Int64) × (Nat → Int64) × (Nat → Int64) × (Nat → Int32) × (Nat → Int32) × (Nat → Int32) × (Nat → Int32) × (Nat → Int32) × Int32 × Int32 × Int32 × (Nat → Int32) × Int32) ⊕ (Nat × (Int32 × Int32 × Int32 × Int64 × Int64 × Int64 × Int32 × Int32 × Int32 × Int32 × (Nat → Int32) × (Nat → Int32) × Int32 × Int32 × Int32 × (Nat → Int64) × (Nat → Int64) × (Nat → Int64) × (Nat → Int32) × (Nat → Int32) × (Nat → Int32) × (Nat → Int32) × (Nat → Int32) × Int32 × Int32 × Int32 × (Nat → Int32) × Int32))} (hf : fX10_segment kIsStale piSegmentsNow enKind enX enY enLower enFromX enFromY enToX enToY tiTouching tiLyingAlong tiMeetingPairs tiAlongPairs tiSize evX evY evLower evBundle evCrossingOf evEventOf evLeftEvent evRightEvent evSize evCrossings evSegmentsNow grDegree grEdges g0Lx g0Ly g0Rx g0Ry g0Ti g0Sz a0 a1 = some out) : vx_Met l yX10_segment (xsWs yX10_segment cX10_segment 3 (some .int)) { frames := 8, cells := 2, slots := 12, locals := 153 } (xsP X (wK X kIsKept kIsStale hiLatest hiSize scBytes scTold scLength scFault scAt scNumber piSegmentsNow enKind enX enY enLower enFromX enFromY enToX enToY tiTouching tiLyingAlong tiMeetingPairs tiAlongPairs tiSize evX evY evLower evBundle evCrossingOf evEventOf evLeftEvent evRightEvent evSize evCrossings evSegmentsNow grDegree grEdges grFar grQueue grQueued huX huY huSize huBestX huBestY S Rw) [.ref (xsA X 0), .int a0, .int a1]) (xsXi X (fun r u => ∃ tt, out = .inl tt ∧ r = tt.1 ∧ u = wK X kIsKept tt.2.1 hiLatest hiSize scBytes scTold scLength scFault scAt scNumber tt.2.2.1 tt.2.2.2.1 tt.2.2.2.2.1 tt.2.2.2.2.2.1 tt.2.2.2.2.2.2.1 tt.2.2.2.2.2.2.2.1 tt.2.2.2.2.2.2.2.2.1 tt.2.2.2.2.2.2.2.2.2.1 tt.2.2.2.2.2.2.2.2.2.2.1 tt.2.2.2.2.2.2.2.2.2.2.2.1 tt.2.2.2.2.2.2.2.2.2.2.2.2.1 tt.2.2.2.2.2.2.2.2.2.2.2.2.2.1 tt.2.2.2.2.2.2.2.2.2.2.2.2.2.2.1 tt.2.2.2.2.2.2.2.2.2.2.2.2.2.2.2.1 tt.2.2.2.2.2.2.2.2.2.2.2.2.2.2.2.2.1 tt.2.2.2.2.2.2.2.2.2.2.2.2.2.2.2.2.2.1 tt.2.2.2.2.2.2.2.2.2.2.2.2.2.2.2.2.2.2.1 tt.2.2.2.2.2.2.2.2.2.2.2.2.2.2.2.2.2.2.2.1 tt.2.2.2.2.2.2.2.2.2.2.2.2.2.2.2.2.2.2.2.2.1 tt.2.2.2.2.2.2.2.2.2.2.2.2.2.2.2.2.2.2.2.2.2.1 tt.2.2.2.2.2.2.2.2.2.2.2.2.2.2.2.2.2.2.2.2.2.2.1 tt.2.2.2.2.2.2.2.2.2.2.2.2.2.2.2.2.2.2.2.2.2.2.2.1 tt.2.2.2.2.2.2.2.2.2.2.2.2.2.2.2.2.2.2.2.2.2.2.2.2.1 tt.2.2.2.2.2.2.2.2.2.2.2.2.2.2.2.2.2.2.2.2.2.2.2.2.2.1 tt.2.2.2.2.2.2.2.2.2.2.2.2.2.2.2.2.2.2.2.2.2.2.2.2.2.2.1 tt.2.2.2.2.2.2.2.2.2.2.2.2.2.2.2.2.2.2.2.2.2.2.2.2.2.2.2.1 tt.2.2.2.2.2.2.2.2.2.2.2.2.2.2.2.2.2.2.2.2.2.2.2.2.2.2.2.2 grFar grQueue grQueued huX huY huSize huBestX huBestY S Rw)) (xsXC X (fun n u => ∃ tt, out = .inr (n, tt) ∧ u = wK X kIsKept tt.1 hiLatest hiSize scBytes scTold scLength scFault scAt scNumber tt.2.1 tt.2.2.1 tt.2.2.2.1 tt.2.2.2.2.1 tt.2.2.2.2.2.1 tt.2.2.2.2.2.2.1 tt.2.2.2.2.2.2.2.1 tt.2.2.2.2.2.2.2.2.1 tt.2.2.2.2.2.2.2.2.2.1 tt.2.2.2.2.2.2.2.2.2.2.1 tt.2.2.2.2.2.2.2.2.2.2.2.1 tt.2.2.2.2.2.2.2.2.2.2.2.2.1 tt.2.2.2.2.2.2.2.2.2.2.2.2.2.1 tt.2.2.2.2.2.2.2.2.2.2.2.2.2.2.1 tt.2.2.2.2.2.2.2.2.2.2.2.2.2.2.2.1 tt.2.2.2.2.2.2.2.2.2.2.2.2.2.2.2.2.1 tt.2.2.2.2.2.2.2.2.2.2.2.2.2.2.2.2.2.1 tt.2.2.2.2.2.2.2.2.2.2.2.2.2.2.2.2.2.2.1 tt.2.2.2.2.2.2.2.2.2.2.2.2.2.2.2.2.2.2.2.1 tt.2.2.2.2.2.2.2.2.2.2.2.2.2.2.2.2.2.2.2.2.1 tt.2.2.2.2.2.2.2.2.2.2.2.2.2.2.2.2.2.2.2.2.2.1 tt.2.2.2.2.2.2.2.2.2.2.2.2.2.2.2.2.2.2.2.2.2.2.1 tt.2.2.2.2.2.2.2.2.2.2.2.2.2.2.2.2.2.2.2.2.2.2.2.1 tt.2.2.2.2.2.2.2.2.2.2.2.2.2.2.2.2.2.2.2.2.2.2.2.2.1 tt.2.2.2.2.2.2.2.2.2.2.2.2.2.2.2.2.2.2.2.2.2.2.2.2.2.1 tt.2.2.2.2.2.2.2.2.2.2.2.2.2.2.2.2.2.2.2.2.2.2.2.2.2.2.1 tt.2.2.2.2.2.2.2.2.2.2.2.2.2.2.2.2.2.2.2.2.2.2.2.2.2.2.2 grFar grQueue grQueued huX huY huSize huBestX huBestY S Rw)) 2 12 (xsF X) := by
  refine xs_xmet RX10 (by decide) rfl (Nat.le_of_ble_eq_true rfl) ?_
  intro p e s m below meth c ls H locs C hout hP hD hS hr hlk hl
  have hx := C.1
  have hb := C.2.1
  have hl : lv_has ls 3 [(0, .ref (xsA X 0)), (1, .int a0), (2, .int a1)] := hl
  obtain ⟨Qq, hQq⟩ : ∃ Qq, Qq = xsXi X (fun r u => ∃ tt, out = .inl tt ∧ r = tt.1 ∧ u = wK X kIsKept tt.2.1 hiLatest hiSize scBytes scTold scLength scFault scAt scNumber tt.2.2.1 tt.2.2.2.1 tt.2.2.2.2.1 tt.2.2.2.2.2.1 tt.2.2.2.2.2.2.1 tt.2.2.2.2.2.2.2.1 tt.2.2.2.2.2.2.2.2.1 tt.2.2.2.2.2.2.2.2.2.1 tt.2.2.2.2.2.2.2.2.2.2.1 tt.2.2.2.2.2.2.2.2.2.2.2.1 tt.2.2.2.2.2.2.2.2.2.2.2.2.1 tt.2.2.2.2.2.2.2.2.2.2.2.2.2.1 tt.2.2.2.2.2.2.2.2.2.2.2.2.2.2.1 tt.2.2.2.2.2.2.2.2.2.2.2.2.2.2.2.1 tt.2.2.2.2.2.2.2.2.2.2.2.2.2.2.2.2.1 tt.2.2.2.2.2.2.2.2.2.2.2.2.2.2.2.2.2.1 tt.2.2.2.2.2.2.2.2.2.2.2.2.2.2.2.2.2.2.1 tt.2.2.2.2.2.2.2.2.2.2.2.2.2.2.2.2.2.2.2.1 tt.2.2.2.2.2.2.2.2.2.2.2.2.2.2.2.2.2.2.2.2.1 tt.2.2.2.2.2.2.2.2.2.2.2.2.2.2.2.2.2.2.2.2.2.1 tt.2.2.2.2.2.2.2.2.2.2.2.2.2.2.2.2.2.2.2.2.2.2.1 tt.2.2.2.2.2.2.2.2.2.2.2.2.2.2.2.2.2.2.2.2.2.2.2.1 tt.2.2.2.2.2.2.2.2.2.2.2.2.2.2.2.2.2.2.2.2.2.2.2.2.1 tt.2.2.2.2.2.2.2.2.2.2.2.2.2.2.2.2.2.2.2.2.2.2.2.2.2.1 tt.2.2.2.2.2.2.2.2.2.2.2.2.2.2.2.2.2.2.2.2.2.2.2.2.2.2.1 tt.2.2.2.2.2.2.2.2.2.2.2.2.2.2.2.2.2.2.2.2.2.2.2.2.2.2.2.1 tt.2.2.2.2.2.2.2.2.2.2.2.2.2.2.2.2.2.2.2.2.2.2.2.2.2.2.2.2 grFar grQueue grQueued huX huY huSize huBestX huBestY S Rw) := ⟨_, rfl⟩
  rw [← hQq]
  obtain ⟨Xq, hXq⟩ : ∃ Xq, Xq = xsXC X (fun n u => ∃ tt, out = .inr (n, tt) ∧ u = wK X kIsKept tt.1 hiLatest hiSize scBytes scTold scLength scFault scAt scNumber tt.2.1 tt.2.2.1 tt.2.2.2.1 tt.2.2.2.2.1 tt.2.2.2.2.2.1 tt.2.2.2.2.2.2.1 tt.2.2.2.2.2.2.2.1 tt.2.2.2.2.2.2.2.2.1 tt.2.2.2.2.2.2.2.2.2.1 tt.2.2.2.2.2.2.2.2.2.2.1 tt.2.2.2.2.2.2.2.2.2.2.2.1 tt.2.2.2.2.2.2.2.2.2.2.2.2.1 tt.2.2.2.2.2.2.2.2.2.2.2.2.2.1 tt.2.2.2.2.2.2.2.2.2.2.2.2.2.2.1 tt.2.2.2.2.2.2.2.2.2.2.2.2.2.2.2.1 tt.2.2.2.2.2.2.2.2.2.2.2.2.2.2.2.2.1 tt.2.2.2.2.2.2.2.2.2.2.2.2.2.2.2.2.2.1 tt.2.2.2.2.2.2.2.2.2.2.2.2.2.2.2.2.2.2.1 tt.2.2.2.2.2.2.2.2.2.2.2.2.2.2.2.2.2.2.2.1 tt.2.2.2.2.2.2.2.2.2.2.2.2.2.2.2.2.2.2.2.2.1 tt.2.2.2.2.2.2.2.2.2.2.2.2.2.2.2.2.2.2.2.2.2.1 tt.2.2.2.2.2.2.2.2.2.2.2.2.2.2.2.2.2.2.2.2.2.2.1 tt.2.2.2.2.2.2.2.2.2.2.2.2.2.2.2.2.2.2.2.2.2.2.2.1 tt.2.2.2.2.2.2.2.2.2.2.2.2.2.2.2.2.2.2.2.2.2.2.2.2.1 tt.2.2.2.2.2.2.2.2.2.2.2.2.2.2.2.2.2.2.2.2.2.2.2.2.2.1 tt.2.2.2.2.2.2.2.2.2.2.2.2.2.2.2.2.2.2.2.2.2.2.2.2.2.2.1 tt.2.2.2.2.2.2.2.2.2.2.2.2.2.2.2.2.2.2.2.2.2.2.2.2.2.2.2 grFar grQueue grQueued huX huY huSize huBestX huBestY S Rw) := ⟨_, rfl⟩
  rw [← hXq]
  unfold fX10_segment at hf
  refine lv_aload_n hx hb dX10_segment_0 rfl (lv_at hl 0 rfl) ?_
  refine lv_iload_n hx hb dX10_segment_1 rfl (lv_at hl 1 rfl) ?_
  replace hf := xsBd_use hf
  obtain ⟨o1, h2, hf⟩ := hf
  refine xs_xcallv hS (xs_xrunV (As := [.int a0]) C (mX10_checkSegment l hst hs_0 h2) w_1018 w_1020 w_28 w_105 w_1021 hd_X10_checkSegment ⟨rfl, rfl, Nat.le_of_ble_eq_true rfl, Nat.le_of_ble_eq_true rfl, Nat.le_of_ble_eq_true rfl, Nat.le_of_ble_eq_true rfl⟩ hP hD hS lk_X10 rfl hl.1 rfl (Nat.le_of_ble_eq_true rfl) dX10_segment_2) (fun n u q H locs hpx hP hD hS hq => ?_) (fun u H locs hp hP hD hS => ?_)
  · obtain ⟨tx, e1, e2⟩ := hpx
    subst e1
    subst e2
    have ho := Option.some.inj hf
    subst ho
    rw [hXq]
    exact xs_xpass hlk hout ⟨_, rfl, rfl⟩ hP hD hS hq (Nat.le_of_ble_eq_true rfl) (Nat.le_of_ble_eq_true rfl)
  obtain ⟨v3, e1, e3⟩ := hp
  subst e1
  subst e3
  replace hf := xsTh_use hf
  refine W.widen (k := 1) (n := 6) (Nat.le_refl _) (Nat.le_refl _) ?_
  refine lv_iload_n hx hb dX10_segment_5 rfl (lv_at hl 2 rfl) ?_
  by_cases c23_0 : a1 = 0
  · replace hf := xsBr_t c23_0 hf
    refine lv_tableIn (tgt := 56) hx hb dX10_segment_6 (by rw [c23_0]; decide) (by rw [c23_0]; decide) (by rw [c23_0]; rfl) (by decide) ?_
    refine lv_aload_n hx hb dX10_segment_56 rfl (lv_at hl 0 rfl) ?_
    refine xg_X10_10 C hP dX10_segment_57 ?_
    refine xg_X10_166 (j := 0) (by decide) C hP dX10_segment_60 ?_
    refine lv_iload_n hx hb dX10_segment_63 rfl (lv_at hl 1 rfl) ?_
    replace hf := xsCk_use hf
    obtain ⟨h4, hf⟩ := hf
    refine xl_s0 (j := 0) (by decide) hs_0 C hP h4 dX10_segment_64 ?_
    have ho := Option.some.inj hf
    subst ho
    rw [hQq]
    exact xs_xiret C hr hlk ⟨_, rfl, rfl, rfl⟩ hP hD hS (Nat.le_of_ble_eq_true rfl) (Nat.le_of_ble_eq_true rfl) dX10_segment_65
  replace hf := xsBr_f c23_0 hf
  by_cases c23_1 : a1 = 1
  · replace hf := xsBr_t c23_1 hf
    refine lv_tableIn (tgt := 66) hx hb dX10_segment_6 (by rw [c23_1]; decide) (by rw [c23_1]; decide) (by rw [c23_1]; rfl) (by decide) ?_
    refine lv_aload_n hx hb dX10_segment_66 rfl (lv_at hl 0 rfl) ?_
    refine xg_X10_10 C hP dX10_segment_67 ?_
    refine xg_X10_169 (j := 0) (by decide) C hP dX10_segment_70 ?_
    refine lv_iload_n hx hb dX10_segment_73 rfl (lv_at hl 1 rfl) ?_
    replace hf := xsCk_use hf
    obtain ⟨h5, hf⟩ := hf
    refine xl_s1 (j := 0) (by decide) hs_0 C hP h5 dX10_segment_74 ?_
    have ho := Option.some.inj hf
    subst ho
    rw [hQq]
    exact xs_xiret C hr hlk ⟨_, rfl, rfl, rfl⟩ hP hD hS (Nat.le_of_ble_eq_true rfl) (Nat.le_of_ble_eq_true rfl) dX10_segment_75
  replace hf := xsBr_f c23_1 hf
  by_cases c23_2 : a1 = 2
  · replace hf := xsBr_t c23_2 hf
    refine lv_tableIn (tgt := 76) hx hb dX10_segment_6 (by rw [c23_2]; decide) (by rw [c23_2]; decide) (by rw [c23_2]; rfl) (by decide) ?_
    refine lv_aload_n hx hb dX10_segment_76 rfl (lv_at hl 0 rfl) ?_
    refine xg_X10_10 C hP dX10_segment_77 ?_
    refine xg_X10_172 (j := 0) (by decide) C hP dX10_segment_80 ?_
    refine lv_iload_n hx hb dX10_segment_83 rfl (lv_at hl 1 rfl) ?_
    replace hf := xsCk_use hf
    obtain ⟨h6, hf⟩ := hf
    refine xl_s2 (j := 0) (by decide) hs_0 C hP h6 dX10_segment_84 ?_
    have ho := Option.some.inj hf
    subst ho
    rw [hQq]
    exact xs_xiret C hr hlk ⟨_, rfl, rfl, rfl⟩ hP hD hS (Nat.le_of_ble_eq_true rfl) (Nat.le_of_ble_eq_true rfl) dX10_segment_85
  replace hf := xsBr_f c23_2 hf
  by_cases c23_3 : a1 = 3
  · replace hf := xsBr_t c23_3 hf
    refine lv_tableIn (tgt := 86) hx hb dX10_segment_6 (by rw [c23_3]; decide) (by rw [c23_3]; decide) (by rw [c23_3]; rfl) (by decide) ?_
    refine lv_aload_n hx hb dX10_segment_86 rfl (lv_at hl 0 rfl) ?_
    refine xg_X10_10 C hP dX10_segment_87 ?_
    refine xg_X10_175 (j := 0) (by decide) C hP dX10_segment_90 ?_
    refine lv_iload_n hx hb dX10_segment_93 rfl (lv_at hl 1 rfl) ?_
    replace hf := xsCk_use hf
    obtain ⟨h7, hf⟩ := hf
    refine xl_s3 (j := 0) (by decide) hs_0 C hP h7 dX10_segment_94 ?_
    have ho := Option.some.inj hf
    subst ho
    rw [hQq]
    exact xs_xiret C hr hlk ⟨_, rfl, rfl, rfl⟩ hP hD hS (Nat.le_of_ble_eq_true rfl) (Nat.le_of_ble_eq_true rfl) dX10_segment_95
  replace hf := xsBr_f c23_3 hf
  by_cases c23_4 : a1 = 4
  · replace hf := xsBr_t c23_4 hf
    refine lv_tableIn (tgt := 96) hx hb dX10_segment_6 (by rw [c23_4]; decide) (by rw [c23_4]; decide) (by rw [c23_4]; rfl) (by decide) ?_
    refine lv_aload_n hx hb dX10_segment_96 rfl (lv_at hl 0 rfl) ?_
    refine xg_X10_10 C hP dX10_segment_97 ?_
    refine xg_X10_151 (j := 0) (by decide) C hP dX10_segment_100 ?_
    refine lv_iload_n hx hb dX10_segment_103 rfl (lv_at hl 1 rfl) ?_
    replace hf := xsCk_use hf
    obtain ⟨h8, hf⟩ := hf
    refine xl_s4 (j := 0) (by decide) hs_0 C hP h8 dX10_segment_104 ?_
    have ho := Option.some.inj hf
    subst ho
    rw [hQq]
    exact xs_xiret C hr hlk ⟨_, rfl, rfl, rfl⟩ hP hD hS (Nat.le_of_ble_eq_true rfl) (Nat.le_of_ble_eq_true rfl) dX10_segment_105
  replace hf := xsBr_f c23_4 hf
  by_cases c23_5 : a1 = 5
  · replace hf := xsBr_t c23_5 hf
    refine lv_tableIn (tgt := 106) hx hb dX10_segment_6 (by rw [c23_5]; decide) (by rw [c23_5]; decide) (by rw [c23_5]; rfl) (by decide) ?_
    refine lv_aload_n hx hb dX10_segment_106 rfl (lv_at hl 0 rfl) ?_
    refine xg_X10_10 C hP dX10_segment_107 ?_
    refine lv_iload_n hx hb dX10_segment_110 rfl (lv_at hl 1 rfl) ?_
    replace hf := xsBd_use hf
    obtain ⟨o9, h10, hf⟩ := hf
    refine xs_calli hS (xs_runV (As := [.int a0]) C (mX7_kind l (js := 0) (by decide) hs_0 h10) w_1079 w_1080 w_1081 w_106 w_1082 hd_X7_kind ⟨rfl, rfl, Nat.le_of_ble_eq_true rfl, Nat.le_of_ble_eq_true rfl, Nat.le_of_ble_eq_true rfl, Nat.le_of_ble_eq_true rfl⟩ hP hD hS (xs_lkS (by decide)) rfl hl.1 rfl (Nat.le_of_ble_eq_true rfl) dX10_segment_111) (fun H locs hP hD hS => ?_)
    have ho := Option.some.inj hf
    subst ho
    rw [hQq]
    exact xs_xiret C hr hlk ⟨_, rfl, rfl, rfl⟩ hP hD hS (Nat.le_of_ble_eq_true rfl) (Nat.le_of_ble_eq_true rfl) dX10_segment_114
  replace hf := xsBr_f c23_5 hf
  by_cases c23_6 : a1 = 6
  · replace hf := xsBr_t c23_6 hf
    refine lv_tableIn (tgt := 115) hx hb dX10_segment_6 (by rw [c23_6]; decide) (by rw [c23_6]; decide) (by rw [c23_6]; rfl) (by decide) ?_
    refine lv_aload_n hx hb dX10_segment_115 rfl (lv_at hl 0 rfl) ?_
    replace hf := xsBd_use hf
    obtain ⟨o11, h12, hf⟩ := hf
    refine xs_callr hS (xs_runV (As := []) C (mX10_drawn l hs_0 h12) w_535 w_537 w_2 w_105 w_538 hd_X10_drawn ⟨rfl, rfl, Nat.le_of_ble_eq_true rfl, Nat.le_of_ble_eq_true rfl, Nat.le_of_ble_eq_true rfl, Nat.le_of_ble_eq_true rfl⟩ hP hD hS lk_X10 rfl hl.1 rfl (Nat.le_of_ble_eq_true rfl) dX10_segment_116) (fun H locs hP hD hS => ?_)
    refine xg_X10_129 C hP dX10_segment_119 ?_
    refine lv_iload_n hx hb dX10_segment_122 rfl (lv_at hl 1 rfl) ?_
    replace hf := xsBd_use hf
    obtain ⟨o13, h14, hf⟩ := hf
    refine xs_calli hS (xs_runV (As := [.int a0]) C (mX1_crossingsOn l  h14) w_1085 w_1086 w_1087 w_112 w_1088 hd_X1_crossingsOn ⟨rfl, rfl, Nat.le_of_ble_eq_true rfl, Nat.le_of_ble_eq_true rfl, Nat.le_of_ble_eq_true rfl, Nat.le_of_ble_eq_true rfl⟩ hP hD hS lk_X1 rfl hl.1 rfl (Nat.le_of_ble_eq_true rfl) dX10_segment_123) (fun H locs hP hD hS => ?_)
    have ho := Option.some.inj hf
    subst ho
    rw [hQq]
    exact xs_xiret C hr hlk ⟨_, rfl, rfl, rfl⟩ hP hD hS (Nat.le_of_ble_eq_true rfl) (Nat.le_of_ble_eq_true rfl) dX10_segment_126
  replace hf := xsBr_f c23_6 hf
  by_cases c23_7 : a1 = 7
  · replace hf := xsBr_t c23_7 hf
    refine lv_tableIn (tgt := 127) hx hb dX10_segment_6 (by rw [c23_7]; decide) (by rw [c23_7]; decide) (by rw [c23_7]; rfl) (by decide) ?_
    refine lv_aload_n hx hb dX10_segment_127 rfl (lv_at hl 0 rfl) ?_
    replace hf := xsBd_use hf
    obtain ⟨o15, h16, hf⟩ := hf
    refine xs_callr hS (xs_runV (As := []) C (mX10_drawn l hs_0 h16) w_535 w_537 w_2 w_105 w_538 hd_X10_drawn ⟨rfl, rfl, Nat.le_of_ble_eq_true rfl, Nat.le_of_ble_eq_true rfl, Nat.le_of_ble_eq_true rfl, Nat.le_of_ble_eq_true rfl⟩ hP hD hS lk_X10 rfl hl.1 rfl (Nat.le_of_ble_eq_true rfl) dX10_segment_128) (fun H locs hP hD hS => ?_)
    refine xg_X10_129 C hP dX10_segment_131 ?_
    refine lv_iload_n hx hb dX10_segment_134 rfl (lv_at hl 1 rfl) ?_
    replace hf := xsBd_use hf
    obtain ⟨o17, h18, hf⟩ := hf
    refine xs_calli hS (xs_runV (As := [.int a0]) C (mX1_eventsOn l  h18) w_1090 w_1091 w_1092 w_112 w_1093 hd_X1_eventsOn ⟨rfl, rfl, Nat.le_of_ble_eq_true rfl, Nat.le_of_ble_eq_true rfl, Nat.le_of_ble_eq_true rfl, Nat.le_of_ble_eq_true rfl⟩ hP hD hS lk_X1 rfl hl.1 rfl (Nat.le_of_ble_eq_true rfl) dX10_segment_135) (fun H locs hP hD hS => ?_)
    refine lv_iconst (v := (1 : Int32)) hx hb dX10_segment_138 (by decide) ?_
    refine lv_isub hx hb dX10_segment_139 ?_
    have ho := Option.some.inj hf
    subst ho
    rw [hQq]
    exact xs_xiret C hr hlk ⟨_, rfl, rfl, rfl⟩ hP hD hS (Nat.le_of_ble_eq_true rfl) (Nat.le_of_ble_eq_true rfl) dX10_segment_140
  replace hf := xsBr_f c23_7 hf
  by_cases c23_8 : a1 = 8
  · replace hf := xsBr_t c23_8 hf
    refine lv_tableIn (tgt := 141) hx hb dX10_segment_6 (by rw [c23_8]; decide) (by rw [c23_8]; decide) (by rw [c23_8]; rfl) (by decide) ?_
    refine lv_aload_n hx hb dX10_segment_141 rfl (lv_at hl 0 rfl) ?_
    replace hf := xsBd_use hf
    obtain ⟨o19, h20, hf⟩ := hf
    refine xs_callr hS (xs_runV (As := []) C (mX10_drawn l hs_0 h20) w_535 w_537 w_2 w_105 w_538 hd_X10_drawn ⟨rfl, rfl, Nat.le_of_ble_eq_true rfl, Nat.le_of_ble_eq_true rfl, Nat.le_of_ble_eq_true rfl, Nat.le_of_ble_eq_true rfl⟩ hP hD hS lk_X10 rfl hl.1 rfl (Nat.le_of_ble_eq_true rfl) dX10_segment_142) (fun H locs hP hD hS => ?_)
    refine xg_X10_188 C hP dX10_segment_145 ?_
    refine lv_iload_n hx hb dX10_segment_148 rfl (lv_at hl 1 rfl) ?_
    replace hf := xsBd_use hf
    obtain ⟨o21, h22, hf⟩ := hf
    refine xs_calli hS (xs_runV (As := [.int a0]) C (mX9_part l  h22) w_1094 w_679 w_680 w_111 w_681 hd_X9_part ⟨rfl, rfl, Nat.le_of_ble_eq_true rfl, Nat.le_of_ble_eq_true rfl, Nat.le_of_ble_eq_true rfl, Nat.le_of_ble_eq_true rfl⟩ hP hD hS lk_X9 rfl hl.1 rfl (Nat.le_of_ble_eq_true rfl) dX10_segment_149) (fun H locs hP hD hS => ?_)
    have ho := Option.some.inj hf
    subst ho
    rw [hQq]
    exact xs_xiret C hr hlk ⟨_, rfl, rfl, rfl⟩ hP hD hS (Nat.le_of_ble_eq_true rfl) (Nat.le_of_ble_eq_true rfl) dX10_segment_152
  replace hf := xsBr_f c23_8 hf
  refine lv_tableOut (tgt := 153) hx hb dX10_segment_6 (xs_swo [0, 1, 2, 3, 4, 5, 6, 7, 8] (by decide) ⟨c23_0, c23_1, c23_2, c23_3, c23_4, c23_5, c23_6, c23_7, c23_8, trivial⟩) (by decide) ?_
  have ho := Option.some.inj hf
  subst ho
  rw [hXq]
  obtain ⟨sa, hsa⟩ := C.2.2.2.2.2.2.2.2.2.1.1.2.2.2.2.2.2.2.1
  exact xs_thrN hst C w_1095 w_129 hsa xsBad4 hP hD hS hl.1 dX10_segment_153 dX10_segment_156 dX10_segment_157 dX10_segment_159 dX10_segment_162 hout ⟨Nat.le_of_ble_eq_true rfl, Nat.le_of_ble_eq_true rfl, Nat.le_of_ble_eq_true rfl, Nat.le_of_ble_eq_true rfl⟩ hlk (Nat.le_of_ble_eq_true rfl) (Nat.le_of_ble_eq_true rfl) ⟨_, rfl, rfl⟩
set_option maxRecDepth 100000 in
set_option maxHeartbeats 8000000 in
theorem mX10_checkTwo (l : Launch) (hst : l.stackTraces = false) {X : xsX} {w : va_W} {a0 : Int32} {a1 : Int32} {out : (Unit) ⊕ (Nat × (Unit))} (hf : fX10_checkTwo a0 a1 = some out) : vx_Met l yX10_checkTwo (xsWs yX10_checkTwo cX10_checkTwo 2 none) { frames := 6, cells := 1, slots := 6, locals := 90 } (xsP X (w) [.int a0, .int a1]) (xsXv X (fun u => ∃ tt, out = .inl tt ∧ u = w)) (xsXC X (fun n u => ∃ tt, out = .inr (n, tt) ∧ u = w)) 1 6 (xsF X) := by
  refine xs_xmet RX10 (by decide) rfl (Nat.le_of_ble_eq_true rfl) ?_
  intro p e s m below meth c ls H locs C hout hP hD hS hr hlk hl
  have hx := C.1
  have hb := C.2.1
  have hl : lv_has ls 2 [(0, .int a0), (1, .int a1)] := hl
  obtain ⟨Qq, hQq⟩ : ∃ Qq, Qq = xsXv X (fun u => ∃ tt, out = .inl tt ∧ u = w) := ⟨_, rfl⟩
  rw [← hQq]
  obtain ⟨Xq, hXq⟩ : ∃ Xq, Xq = xsXC X (fun n u => ∃ tt, out = .inr (n, tt) ∧ u = w) := ⟨_, rfl⟩
  rw [← hXq]
  unfold fX10_checkTwo at hf
  refine lv_iload_n hx hb dX10_checkTwo_0 rfl (lv_at hl 0 rfl) ?_
  refine lv_iload_n hx hb dX10_checkTwo_1 rfl (lv_at hl 1 rfl) ?_
  refine lv_icmp_ne (tgt := 16) hx hb dX10_checkTwo_2 (by decide) (fun c1 => ?_) (fun c1 => ?_)
  · replace hf := xsBr_f c1 hf
    have ho := Option.some.inj hf
    subst ho
    rw [hQq]
    exact xs_xvret C hr hlk ⟨_, rfl, rfl⟩ hP hD hS (Nat.le_of_ble_eq_true rfl) (Nat.le_of_ble_eq_true rfl) dX10_checkTwo_16
  · replace hf := xsBr_t c1 hf
    have ho := Option.some.inj hf
    subst ho
    rw [hXq]
    obtain ⟨sa, hsa⟩ := C.2.2.2.2.2.2.2.2.2.1.1.2.2.2.2.2.2.2.2.1
    exact xs_thrW 1 hst C (by decide) w_907 w_123 hsa xsBad1 hP hD hS hl.1 dX10_checkTwo_5 dX10_checkTwo_8 dX10_checkTwo_9 dX10_checkTwo_12 dX10_checkTwo_15 hout ⟨Nat.le_of_ble_eq_true rfl, Nat.le_of_ble_eq_true rfl, Nat.le_of_ble_eq_true rfl, Nat.le_of_ble_eq_true rfl⟩ hlk (Nat.le_of_ble_eq_true rfl) (Nat.le_of_ble_eq_true rfl) ⟨_, rfl, rfl⟩
set_option maxRecDepth 100000 in
set_option maxHeartbeats 8000000 in
theorem mX10_how (l : Launch) (hst : l.stackTraces = false) {X : xsX} {kIsKept kIsStale hiLatest hiSize scLength scFault scAt scNumber piSegmentsNow enKind enFromX enFromY enToX enToY tiMeetingPairs tiAlongPairs tiSize evSize evCrossings evSegmentsNow grEdges grQueued huSize huBestX huBestY : Int32} {scBytes scTold tiTouching tiLyingAlong evBundle evCrossingOf evEventOf evLeftEvent evRightEvent grDegree grFar grQueue huX huY : Nat → Int32} {enX enY enLower : Int64} {evX evY evLower : Nat → Int64} {S : Nat → xsV} {Rw : va_W} {g0Lx g0Ly g0Rx g0Ry g0Ti : Nat → Int32} {g0Sz : Int32} (hs_0 : S 0 = (g0Lx, g0Ly, g0Rx, g0Ry, g0Ti, g0Sz)) {a0 : Int32} {a1 : Int32} {out : (Int32 × Int32 × Int64 × Int64 × Int64 × Int32 × Int32 × Int32 × Int32) ⊕ (Nat × (Int32 × Int64 × Int64 × Int64 × Int32 × Int32 × Int32 × Int32))} (hf : fX10_how enKind enX enY enLower enFromX enFromY enToX enToY g0Lx g0Ly g0Rx g0Ry g0Sz a0 a1 = some out) : vx_Met l yX10_how (xsWs yX10_how cX10_how 4 (some .int)) { frames := 8, cells := 3, slots := 18, locals := 132 } (xsP X (wK X kIsKept kIsStale hiLatest hiSize scBytes scTold scLength scFault scAt scNumber piSegmentsNow enKind enX enY enLower enFromX enFromY enToX enToY tiTouching tiLyingAlong tiMeetingPairs tiAlongPairs tiSize evX evY evLower evBundle evCrossingOf evEventOf evLeftEvent evRightEvent evSize evCrossings evSegmentsNow grDegree grEdges grFar grQueue grQueued huX huY huSize huBestX huBestY S Rw) [.ref (xsA X 0), .int a0, .int a1]) (xsXi X (fun r u => ∃ tt, out = .inl tt ∧ r = tt.1 ∧ u = wK X kIsKept kIsStale hiLatest hiSize scBytes scTold scLength scFault scAt scNumber piSegmentsNow tt.2.1 tt.2.2.1 tt.2.2.2.1 tt.2.2.2.2.1 tt.2.2.2.2.2.1 tt.2.2.2.2.2.2.1 tt.2.2.2.2.2.2.2.1 tt.2.2.2.2.2.2.2.2 tiTouching tiLyingAlong tiMeetingPairs tiAlongPairs tiSize evX evY evLower evBundle evCrossingOf evEventOf evLeftEvent evRightEvent evSize evCrossings evSegmentsNow grDegree grEdges grFar grQueue grQueued huX huY huSize huBestX huBestY S Rw)) (xsXC X (fun n u => ∃ tt, out = .inr (n, tt) ∧ u = wK X kIsKept kIsStale hiLatest hiSize scBytes scTold scLength scFault scAt scNumber piSegmentsNow tt.1 tt.2.1 tt.2.2.1 tt.2.2.2.1 tt.2.2.2.2.1 tt.2.2.2.2.2.1 tt.2.2.2.2.2.2.1 tt.2.2.2.2.2.2.2 tiTouching tiLyingAlong tiMeetingPairs tiAlongPairs tiSize evX evY evLower evBundle evCrossingOf evEventOf evLeftEvent evRightEvent evSize evCrossings evSegmentsNow grDegree grEdges grFar grQueue grQueued huX huY huSize huBestX huBestY S Rw)) 3 18 (xsF X) := by
  refine xs_xmet RX10 (by decide) rfl (Nat.le_of_ble_eq_true rfl) ?_
  intro p e s m below meth c ls H locs C hout hP hD hS hr hlk hl
  have hx := C.1
  have hb := C.2.1
  have hl : lv_has ls 4 [(0, .ref (xsA X 0)), (1, .int a0), (2, .int a1)] := hl
  obtain ⟨Qq, hQq⟩ : ∃ Qq, Qq = xsXi X (fun r u => ∃ tt, out = .inl tt ∧ r = tt.1 ∧ u = wK X kIsKept kIsStale hiLatest hiSize scBytes scTold scLength scFault scAt scNumber piSegmentsNow tt.2.1 tt.2.2.1 tt.2.2.2.1 tt.2.2.2.2.1 tt.2.2.2.2.2.1 tt.2.2.2.2.2.2.1 tt.2.2.2.2.2.2.2.1 tt.2.2.2.2.2.2.2.2 tiTouching tiLyingAlong tiMeetingPairs tiAlongPairs tiSize evX evY evLower evBundle evCrossingOf evEventOf evLeftEvent evRightEvent evSize evCrossings evSegmentsNow grDegree grEdges grFar grQueue grQueued huX huY huSize huBestX huBestY S Rw) := ⟨_, rfl⟩
  rw [← hQq]
  obtain ⟨Xq, hXq⟩ : ∃ Xq, Xq = xsXC X (fun n u => ∃ tt, out = .inr (n, tt) ∧ u = wK X kIsKept kIsStale hiLatest hiSize scBytes scTold scLength scFault scAt scNumber piSegmentsNow tt.1 tt.2.1 tt.2.2.1 tt.2.2.2.1 tt.2.2.2.2.1 tt.2.2.2.2.2.1 tt.2.2.2.2.2.2.1 tt.2.2.2.2.2.2.2 tiTouching tiLyingAlong tiMeetingPairs tiAlongPairs tiSize evX evY evLower evBundle evCrossingOf evEventOf evLeftEvent evRightEvent evSize evCrossings evSegmentsNow grDegree grEdges grFar grQueue grQueued huX huY huSize huBestX huBestY S Rw) := ⟨_, rfl⟩
  rw [← hXq]
  unfold fX10_how at hf
  refine lv_aload_n hx hb dX10_how_0 rfl (lv_at hl 0 rfl) ?_
  refine lv_iload_n hx hb dX10_how_1 rfl (lv_at hl 1 rfl) ?_
  replace hf := xsBd_use hf
  obtain ⟨o1, h2, hf⟩ := hf
  refine xs_xcallv hS (xs_xrunV (As := [.int a0]) C (mX10_checkSegment l hst hs_0 h2) w_1018 w_1020 w_28 w_105 w_1021 hd_X10_checkSegment ⟨rfl, rfl, Nat.le_of_ble_eq_true rfl, Nat.le_of_ble_eq_true rfl, Nat.le_of_ble_eq_true rfl, Nat.le_of_ble_eq_true rfl⟩ hP hD hS lk_X10 rfl hl.1 rfl (Nat.le_of_ble_eq_true rfl) dX10_how_2) (fun n u q H locs hpx hP hD hS hq => ?_) (fun u H locs hp hP hD hS => ?_)
  · obtain ⟨tx, e1, e2⟩ := hpx
    subst e1
    subst e2
    have ho := Option.some.inj hf
    subst ho
    rw [hXq]
    exact xs_xpass hlk hout ⟨_, rfl, rfl⟩ hP hD hS hq (Nat.le_of_ble_eq_true rfl) (Nat.le_of_ble_eq_true rfl)
  obtain ⟨v3, e1, e3⟩ := hp
  subst e1
  subst e3
  replace hf := xsTh_use hf
  refine W.widen (k := 1) (n := 6) (Nat.le_refl _) (Nat.le_refl _) ?_
  refine lv_aload_n hx hb dX10_how_5 rfl (lv_at hl 0 rfl) ?_
  refine lv_iload_n hx hb dX10_how_6 rfl (lv_at hl 2 rfl) ?_
  replace hf := xsBd_use hf
  obtain ⟨o4, h5, hf⟩ := hf
  refine xs_xcallv hS (xs_xrunV (As := [.int a1]) C (mX10_checkSegment l hst hs_0 h5) w_1018 w_1020 w_28 w_105 w_1021 hd_X10_checkSegment ⟨rfl, rfl, Nat.le_of_ble_eq_true rfl, Nat.le_of_ble_eq_true rfl, Nat.le_of_ble_eq_true rfl, Nat.le_of_ble_eq_true rfl⟩ hP hD hS lk_X10 rfl hl.1 rfl (Nat.le_of_ble_eq_true rfl) dX10_how_7) (fun n u q H locs hpx hP hD hS hq => ?_) (fun u H locs hp hP hD hS => ?_)
  · obtain ⟨tx, e1, e2⟩ := hpx
    subst e1
    subst e2
    have ho := Option.some.inj hf
    subst ho
    rw [hXq]
    exact xs_xpass hlk hout ⟨_, rfl, rfl⟩ hP hD hS hq (Nat.le_of_ble_eq_true rfl) (Nat.le_of_ble_eq_true rfl)
  obtain ⟨v6, e1, e3⟩ := hp
  subst e1
  subst e3
  replace hf := xsTh_use hf
  refine W.widen (k := 2) (n := 12) (Nat.le_refl _) (Nat.le_refl _) ?_
  refine lv_iload_n hx hb dX10_how_10 rfl (lv_at hl 1 rfl) ?_
  refine lv_iload_n hx hb dX10_how_11 rfl (lv_at hl 2 rfl) ?_
  replace hf := xsBd_use hf
  obtain ⟨o7, h8, hf⟩ := hf
  refine xs_xcallv hS (xs_xrunS (As := [.int a0, .int a1]) C (mX10_checkTwo l hst  h8) w_1118 w_1119 w_105 w_1120 hd_X10_checkTwo ⟨rfl, rfl, Nat.le_of_ble_eq_true rfl, Nat.le_of_ble_eq_true rfl, Nat.le_of_ble_eq_true rfl, Nat.le_of_ble_eq_true rfl⟩ hP hD hS hl.1 rfl (Nat.le_of_ble_eq_true rfl) dX10_how_12) (fun n u q H locs hpx hP hD hS hq => ?_) (fun u H locs hp hP hD hS => ?_)
  · obtain ⟨tx, e1, e2⟩ := hpx
    subst e1
    subst e2
    have ho := Option.some.inj hf
    subst ho
    rw [hXq]
    exact xs_xpass hlk hout ⟨_, rfl, rfl⟩ hP hD hS hq (Nat.le_of_ble_eq_true rfl) (Nat.le_of_ble_eq_true rfl)
  obtain ⟨v9, e1, e3⟩ := hp
  subst e1
  subst e3
  replace hf := xsTh_use hf
  refine W.widen (k := 3) (n := 18) (Nat.le_refl _) (Nat.le_refl _) ?_
  refine lv_aload_n hx hb dX10_how_15 rfl (lv_at hl 0 rfl) ?_
  refine xg_X10_10 C hP dX10_how_16 ?_
  refine lv_iload_n hx hb dX10_how_19 rfl (lv_at hl 1 rfl) ?_
  refine lv_iload_n hx hb dX10_how_20 rfl (lv_at hl 2 rfl) ?_
  replace hf := xsBd_use hf
  obtain ⟨o10, h11, hf⟩ := hf
  refine xs_calli hS (xs_runV (As := [.int a0, .int a1]) C (mX7_isSame l (js := 0) (by decide) hs_0 h11) w_1122 w_1123 w_1124 w_106 w_1125 hd_X7_isSame ⟨rfl, rfl, Nat.le_of_ble_eq_true rfl, Nat.le_of_ble_eq_true rfl, Nat.le_of_ble_eq_true rfl, Nat.le_of_ble_eq_true rfl⟩ hP hD hS (xs_lkS (by decide)) rfl hl.1 rfl (Nat.le_of_ble_eq_true rfl) dX10_how_21) (fun H locs hP hD hS => ?_)
  refine lv_if_eq (tgt := 29) hx hb dX10_how_24 (by decide) (fun c22 => ?_) (fun c22 => ?_)
  · replace hf := xsBr_t c22 hf
    refine lv_aload_n hx hb dX10_how_29 rfl (lv_at hl 0 rfl) ?_
    refine lv_iload_n hx hb dX10_how_30 rfl (lv_at hl 1 rfl) ?_
    refine lv_iload_n hx hb dX10_how_31 rfl (lv_at hl 2 rfl) ?_
    replace hf := xsBd_use hf
    obtain ⟨o12, h13, hf⟩ := hf
    refine xs_callr hS (xs_runV (As := [.int a0, .int a1]) C (mX10_encounterOf l hs_0 h13) w_1126 w_1128 w_29 w_105 w_1129 hd_X10_encounterOf ⟨rfl, rfl, Nat.le_of_ble_eq_true rfl, Nat.le_of_ble_eq_true rfl, Nat.le_of_ble_eq_true rfl, Nat.le_of_ble_eq_true rfl⟩ hP hD hS lk_X10 rfl hl.1 rfl (Nat.le_of_ble_eq_true rfl) dX10_how_32) (fun H locs hP hD hS => ?_)
    refine lv_astore_n (lv' := [(3, .ref (xsA X 7)), (0, .ref (xsA X 0)), (1, .int a0), (2, .int a1)]) hx hb dX10_how_35 rfl hl (by decide) rfl (fun ls hl => ?_)
    refine lv_aload_n hx hb dX10_how_36 rfl (lv_at hl 0 rfl) ?_
    refine xg_X10_213 C hP dX10_how_37 ?_
    refine lv_iconst (v := (2 : Int32)) hx hb dX10_how_40 (by decide) ?_
    refine lv_icmp_ne (tgt := 46) hx hb dX10_how_41 (by decide) (fun c21 => ?_) (fun c21 => ?_)
    · replace hf := xsBr_f c21 hf
      refine lv_aload_n hx hb dX10_how_46 rfl (lv_at hl 0 rfl) ?_
      refine xg_X10_213 C hP dX10_how_47 ?_
      refine lv_if_ne (tgt := 55) hx hb dX10_how_50 (by decide) (fun c20 => ?_) (fun c20 => ?_)
      · replace hf := xsBr_f c20 hf
        refine lv_aload_n hx hb dX10_how_55 rfl (lv_at hl 0 rfl) ?_
        refine lv_aload_n hx hb dX10_how_56 rfl (lv_at hl 1 rfl) ?_
        refine xg_X10_10 C hP dX10_how_57 ?_
        refine lv_iload_n hx hb dX10_how_60 rfl (lv_at hl 2 rfl) ?_
        replace hf := xsBd_use hf
        obtain ⟨o14, h15, hf⟩ := hf
        refine xs_calli hS (xs_runV (As := [.ref (xsA X 27), .int a0]) C (mX0_isAtEndOf l (js := 0) (by decide) hs_0 h15) w_1131 w_1132 w_1133 w_110 w_1134 hd_X0_isAtEndOf ⟨rfl, rfl, Nat.le_of_ble_eq_true rfl, Nat.le_of_ble_eq_true rfl, Nat.le_of_ble_eq_true rfl, Nat.le_of_ble_eq_true rfl⟩ hP hD hS lk_X0 rfl hl.1 rfl (Nat.le_of_ble_eq_true rfl) dX10_how_61) (fun H locs hP hD hS => ?_)
        refine lv_if_ne (tgt := 79) hx hb dX10_how_64 (by decide) (fun c19 => ?_) (fun c19 => ?_)
        · replace hf := xsBr_f c19 hf
          refine lv_iconst (v := (1 : Int32)) hx hb dX10_how_79 (by decide) ?_
          refine lv_goto (tgt := 84) hx hb dX10_how_80 (by decide) ?_
          have ho := Option.some.inj hf
          subst ho
          rw [hQq]
          exact xs_xiret C hr hlk ⟨_, rfl, rfl, rfl⟩ hP hD hS (Nat.le_of_ble_eq_true rfl) (Nat.le_of_ble_eq_true rfl) dX10_how_84
        · replace hf := xsBr_t c19 hf
          refine lv_aload_n hx hb dX10_how_67 rfl (lv_at hl 0 rfl) ?_
          refine lv_aload_n hx hb dX10_how_68 rfl (lv_at hl 1 rfl) ?_
          refine xg_X10_10 C hP dX10_how_69 ?_
          refine lv_iload_n hx hb dX10_how_72 rfl (lv_at hl 3 rfl) ?_
          replace hf := xsBd_use hf
          obtain ⟨o16, h17, hf⟩ := hf
          refine xs_calli hS (xs_runV (As := [.ref (xsA X 27), .int a1]) C (mX0_isAtEndOf l (js := 0) (by decide) hs_0 h17) w_1131 w_1132 w_1133 w_110 w_1134 hd_X0_isAtEndOf ⟨rfl, rfl, Nat.le_of_ble_eq_true rfl, Nat.le_of_ble_eq_true rfl, Nat.le_of_ble_eq_true rfl, Nat.le_of_ble_eq_true rfl⟩ hP hD hS lk_X0 rfl hl.1 rfl (Nat.le_of_ble_eq_true rfl) dX10_how_73) (fun H locs hP hD hS => ?_)
          refine lv_if_eq (tgt := 83) hx hb dX10_how_76 (by decide) (fun c18 => ?_) (fun c18 => ?_)
          · replace hf := xsBr_t c18 hf
            refine lv_iconst (v := (2 : Int32)) hx hb dX10_how_83 (by decide) ?_
            have ho := Option.some.inj hf
            subst ho
            rw [hQq]
            exact xs_xiret C hr hlk ⟨_, rfl, rfl, rfl⟩ hP hD hS (Nat.le_of_ble_eq_true rfl) (Nat.le_of_ble_eq_true rfl) dX10_how_84
          · replace hf := xsBr_f c18 hf
            refine lv_iconst (v := (1 : Int32)) hx hb dX10_how_79 (by decide) ?_
            refine lv_goto (tgt := 84) hx hb dX10_how_80 (by decide) ?_
            have ho := Option.some.inj hf
            subst ho
            rw [hQq]
            exact xs_xiret C hr hlk ⟨_, rfl, rfl, rfl⟩ hP hD hS (Nat.le_of_ble_eq_true rfl) (Nat.le_of_ble_eq_true rfl) dX10_how_84
      · replace hf := xsBr_t c20 hf
        refine lv_iconst (v := (0 : Int32)) hx hb dX10_how_53 (by decide) ?_
        have ho := Option.some.inj hf
        subst ho
        rw [hQq]
        exact xs_xiret C hr hlk ⟨_, rfl, rfl, rfl⟩ hP hD hS (Nat.le_of_ble_eq_true rfl) (Nat.le_of_ble_eq_true rfl) dX10_how_54
    · replace hf := xsBr_t c21 hf
      refine lv_iconst (v := (3 : Int32)) hx hb dX10_how_44 (by decide) ?_
      have ho := Option.some.inj hf
      subst ho
      rw [hQq]
      exact xs_xiret C hr hlk ⟨_, rfl, rfl, rfl⟩ hP hD hS (Nat.le_of_ble_eq_true rfl) (Nat.le_of_ble_eq_true rfl) dX10_how_45
  · replace hf := xsBr_f c22 hf
    refine lv_iconst (v := (4 : Int32)) hx hb dX10_how_27 (by decide) ?_
    have ho := Option.some.inj hf
    subst ho
    rw [hQq]
    exact xs_xiret C hr hlk ⟨_, rfl, rfl, rfl⟩ hP hD hS (Nat.le_of_ble_eq_true rfl) (Nat.le_of_ble_eq_true rfl) dX10_how_28
set_option maxRecDepth 100000 in
set_option maxHeartbeats 8000000 in
theorem mX10_checkQuestion (l : Launch) (hst : l.stackTraces = false) {X : xsX} {w : va_W} {a0 : Int32} {a1 : Int32} {out : (Unit) ⊕ (Nat × (Unit))} (hf : fX10_checkQuestion a0 a1 = some out) : vx_Met l yX10_checkQuestion (xsWs yX10_checkQuestion cX10_checkQuestion 2 none) { frames := 6, cells := 1, slots := 6, locals := 90 } (xsP X (w) [.int a0, .int a1]) (xsXv X (fun u => ∃ tt, out = .inl tt ∧ u = w)) (xsXC X (fun n u => ∃ tt, out = .inr (n, tt) ∧ u = w)) 1 6 (xsF X) := by
  refine xs_xmet RX10 (by decide) rfl (Nat.le_of_ble_eq_true rfl) ?_
  intro p e s m below meth c ls H locs C hout hP hD hS hr hlk hl
  have hx := C.1
  have hb := C.2.1
  have hl : lv_has ls 2 [(0, .int a0), (1, .int a1)] := hl
  obtain ⟨Qq, hQq⟩ : ∃ Qq, Qq = xsXv X (fun u => ∃ tt, out = .inl tt ∧ u = w) := ⟨_, rfl⟩
  rw [← hQq]
  obtain ⟨Xq, hXq⟩ : ∃ Xq, Xq = xsXC X (fun n u => ∃ tt, out = .inr (n, tt) ∧ u = w) := ⟨_, rfl⟩
  rw [← hXq]
  unfold fX10_checkQuestion at hf
  refine lv_iload_n hx hb dX10_checkQuestion_0 rfl (lv_at hl 0 rfl) ?_
  refine lv_if_lt (tgt := 9) hx hb dX10_checkQuestion_1 (by decide) (fun c2 => ?_) (fun c2 => ?_)
  · replace hf := xsBr_t c2 hf
    have ho := Option.some.inj hf
    subst ho
    rw [hXq]
    obtain ⟨sa, hsa⟩ := C.2.2.2.2.2.2.2.2.2.1.1.2.2.2.2.2.2.2.2.2.1
    exact xs_thrNW hst C w_1095 w_129 hsa xsBad4 hP hD hS hl.1 dX10_checkQuestion_9 dX10_checkQuestion_12 dX10_checkQuestion_13 dX10_checkQuestion_16 dX10_checkQuestion_19 hout ⟨Nat.le_of_ble_eq_true rfl, Nat.le_of_ble_eq_true rfl, Nat.le_of_ble_eq_true rfl, Nat.le_of_ble_eq_true rfl⟩ hlk (Nat.le_of_ble_eq_true rfl) (Nat.le_of_ble_eq_true rfl) ⟨_, rfl, rfl⟩
  · replace hf := xsBr_f c2 hf
    refine lv_iload_n hx hb dX10_checkQuestion_4 rfl (lv_at hl 0 rfl) ?_
    refine lv_iload_n hx hb dX10_checkQuestion_5 rfl (lv_at hl 1 rfl) ?_
    refine lv_icmp_le (tgt := 20) hx hb dX10_checkQuestion_6 (by decide) (fun c1 => ?_) (fun c1 => ?_)
    · replace hf := xsBr_t c1 hf
      have ho := Option.some.inj hf
      subst ho
      rw [hQq]
      exact xs_xvret C hr hlk ⟨_, rfl, rfl⟩ hP hD hS (Nat.le_of_ble_eq_true rfl) (Nat.le_of_ble_eq_true rfl) dX10_checkQuestion_20
    · replace hf := xsBr_f c1 hf
      have ho := Option.some.inj hf
      subst ho
      rw [hXq]
      obtain ⟨sa, hsa⟩ := C.2.2.2.2.2.2.2.2.2.1.1.2.2.2.2.2.2.2.2.2.1
      exact xs_thrNW hst C w_1095 w_129 hsa xsBad4 hP hD hS hl.1 dX10_checkQuestion_9 dX10_checkQuestion_12 dX10_checkQuestion_13 dX10_checkQuestion_16 dX10_checkQuestion_19 hout ⟨Nat.le_of_ble_eq_true rfl, Nat.le_of_ble_eq_true rfl, Nat.le_of_ble_eq_true rfl, Nat.le_of_ble_eq_true rfl⟩ hlk (Nat.le_of_ble_eq_true rfl) (Nat.le_of_ble_eq_true rfl) ⟨_, rfl, rfl⟩
set_option maxRecDepth 100000 in
set_option maxHeartbeats 8000000 in
theorem mX10_meet (l : Launch) (hst : l.stackTraces = false) {X : xsX} {kIsKept kIsStale hiLatest hiSize scLength scFault scAt scNumber piSegmentsNow enKind enFromX enFromY enToX enToY tiMeetingPairs tiAlongPairs tiSize evSize evCrossings evSegmentsNow grEdges grQueued huSize huBestX huBestY : Int32} {scBytes scTold tiTouching tiLyingAlong evBundle evCrossingOf evEventOf evLeftEvent evRightEvent grDegree grFar grQueue huX huY : Nat → Int32} {enX enY enLower : Int64} {evX evY evLower : Nat → Int64} {S : Nat → xsV} {Rw : va_W} {g0Lx g0Ly g0Rx g0Ry g0Ti : Nat → Int32} {g0Sz : Int32} (hs_0 : S 0 = (g0Lx, g0Ly, g0Rx, g0Ry, g0Ti, g0Sz)) {a0 : Int32} {a1 : Int32} {a2 : Int32} {out : (Int64 × Int32 × Int64 × Int64 × Int64 × Int32 × Int32 × Int32 × Int32) ⊕ (Nat × (Int32 × Int64 × Int64 × Int64 × Int32 × Int32 × Int32 × Int32))} (hf : fX10_meet enKind enX enY enLower enFromX enFromY enToX enToY g0Lx g0Ly g0Rx g0Ry g0Sz a0 a1 a2 = some out) : vx_Met l yX10_meet (xsWs yX10_meet cX10_meet 5 (some .long)) { frames := 8, cells := 5, slots := 30, locals := 132 } (xsP X (wK X kIsKept kIsStale hiLatest hiSize scBytes scTold scLength scFault scAt scNumber piSegmentsNow enKind enX enY enLower enFromX enFromY enToX enToY tiTouching tiLyingAlong tiMeetingPairs tiAlongPairs tiSize evX evY evLower evBundle evCrossingOf evEventOf evLeftEvent evRightEvent evSize evCrossings evSegmentsNow grDegree grEdges grFar grQueue grQueued huX huY huSize huBestX huBestY S Rw) [.ref (xsA X 0), .int a0, .int a1, .int a2]) (xsXl X (fun r u => ∃ tt, out = .inl tt ∧ r = tt.1 ∧ u = wK X kIsKept kIsStale hiLatest hiSize scBytes scTold scLength scFault scAt scNumber piSegmentsNow tt.2.1 tt.2.2.1 tt.2.2.2.1 tt.2.2.2.2.1 tt.2.2.2.2.2.1 tt.2.2.2.2.2.2.1 tt.2.2.2.2.2.2.2.1 tt.2.2.2.2.2.2.2.2 tiTouching tiLyingAlong tiMeetingPairs tiAlongPairs tiSize evX evY evLower evBundle evCrossingOf evEventOf evLeftEvent evRightEvent evSize evCrossings evSegmentsNow grDegree grEdges grFar grQueue grQueued huX huY huSize huBestX huBestY S Rw)) (xsXC X (fun n u => ∃ tt, out = .inr (n, tt) ∧ u = wK X kIsKept kIsStale hiLatest hiSize scBytes scTold scLength scFault scAt scNumber piSegmentsNow tt.1 tt.2.1 tt.2.2.1 tt.2.2.2.1 tt.2.2.2.2.1 tt.2.2.2.2.2.1 tt.2.2.2.2.2.2.1 tt.2.2.2.2.2.2.2 tiTouching tiLyingAlong tiMeetingPairs tiAlongPairs tiSize evX evY evLower evBundle evCrossingOf evEventOf evLeftEvent evRightEvent evSize evCrossings evSegmentsNow grDegree grEdges grFar grQueue grQueued huX huY huSize huBestX huBestY S Rw)) 5 30 (xsF X) := by
  refine xs_xmet RX10 (by decide) rfl (Nat.le_of_ble_eq_true rfl) ?_
  intro p e s m below meth c ls H locs C hout hP hD hS hr hlk hl
  have hx := C.1
  have hb := C.2.1
  have hl : lv_has ls 5 [(0, .ref (xsA X 0)), (1, .int a0), (2, .int a1), (3, .int a2)] := hl
  obtain ⟨Qq, hQq⟩ : ∃ Qq, Qq = xsXl X (fun r u => ∃ tt, out = .inl tt ∧ r = tt.1 ∧ u = wK X kIsKept kIsStale hiLatest hiSize scBytes scTold scLength scFault scAt scNumber piSegmentsNow tt.2.1 tt.2.2.1 tt.2.2.2.1 tt.2.2.2.2.1 tt.2.2.2.2.2.1 tt.2.2.2.2.2.2.1 tt.2.2.2.2.2.2.2.1 tt.2.2.2.2.2.2.2.2 tiTouching tiLyingAlong tiMeetingPairs tiAlongPairs tiSize evX evY evLower evBundle evCrossingOf evEventOf evLeftEvent evRightEvent evSize evCrossings evSegmentsNow grDegree grEdges grFar grQueue grQueued huX huY huSize huBestX huBestY S Rw) := ⟨_, rfl⟩
  rw [← hQq]
  obtain ⟨Xq, hXq⟩ : ∃ Xq, Xq = xsXC X (fun n u => ∃ tt, out = .inr (n, tt) ∧ u = wK X kIsKept kIsStale hiLatest hiSize scBytes scTold scLength scFault scAt scNumber piSegmentsNow tt.1 tt.2.1 tt.2.2.1 tt.2.2.2.1 tt.2.2.2.2.1 tt.2.2.2.2.2.1 tt.2.2.2.2.2.2.1 tt.2.2.2.2.2.2.2 tiTouching tiLyingAlong tiMeetingPairs tiAlongPairs tiSize evX evY evLower evBundle evCrossingOf evEventOf evLeftEvent evRightEvent evSize evCrossings evSegmentsNow grDegree grEdges grFar grQueue grQueued huX huY huSize huBestX huBestY S Rw) := ⟨_, rfl⟩
  rw [← hXq]
  unfold fX10_meet at hf
  refine lv_aload_n hx hb dX10_meet_0 rfl (lv_at hl 0 rfl) ?_
  refine lv_iload_n hx hb dX10_meet_1 rfl (lv_at hl 1 rfl) ?_
  replace hf := xsBd_use hf
  obtain ⟨o1, h2, hf⟩ := hf
  refine xs_xcallv hS (xs_xrunV (As := [.int a0]) C (mX10_checkSegment l hst hs_0 h2) w_1018 w_1020 w_28 w_105 w_1021 hd_X10_checkSegment ⟨rfl, rfl, Nat.le_of_ble_eq_true rfl, Nat.le_of_ble_eq_true rfl, Nat.le_of_ble_eq_true rfl, Nat.le_of_ble_eq_true rfl⟩ hP hD hS lk_X10 rfl hl.1 rfl (Nat.le_of_ble_eq_true rfl) dX10_meet_2) (fun n u q H locs hpx hP hD hS hq => ?_) (fun u H locs hp hP hD hS => ?_)
  · obtain ⟨tx, e1, e2⟩ := hpx
    subst e1
    subst e2
    have ho := Option.some.inj hf
    subst ho
    rw [hXq]
    exact xs_xpass hlk hout ⟨_, rfl, rfl⟩ hP hD hS hq (Nat.le_of_ble_eq_true rfl) (Nat.le_of_ble_eq_true rfl)
  obtain ⟨v3, e1, e3⟩ := hp
  subst e1
  subst e3
  replace hf := xsTh_use hf
  refine W.widen (k := 1) (n := 6) (Nat.le_refl _) (Nat.le_refl _) ?_
  refine lv_aload_n hx hb dX10_meet_5 rfl (lv_at hl 0 rfl) ?_
  refine lv_iload_n hx hb dX10_meet_6 rfl (lv_at hl 2 rfl) ?_
  replace hf := xsBd_use hf
  obtain ⟨o4, h5, hf⟩ := hf
  refine xs_xcallv hS (xs_xrunV (As := [.int a1]) C (mX10_checkSegment l hst hs_0 h5) w_1018 w_1020 w_28 w_105 w_1021 hd_X10_checkSegment ⟨rfl, rfl, Nat.le_of_ble_eq_true rfl, Nat.le_of_ble_eq_true rfl, Nat.le_of_ble_eq_true rfl, Nat.le_of_ble_eq_true rfl⟩ hP hD hS lk_X10 rfl hl.1 rfl (Nat.le_of_ble_eq_true rfl) dX10_meet_7) (fun n u q H locs hpx hP hD hS hq => ?_) (fun u H locs hp hP hD hS => ?_)
  · obtain ⟨tx, e1, e2⟩ := hpx
    subst e1
    subst e2
    have ho := Option.some.inj hf
    subst ho
    rw [hXq]
    exact xs_xpass hlk hout ⟨_, rfl, rfl⟩ hP hD hS hq (Nat.le_of_ble_eq_true rfl) (Nat.le_of_ble_eq_true rfl)
  obtain ⟨v6, e1, e3⟩ := hp
  subst e1
  subst e3
  replace hf := xsTh_use hf
  refine W.widen (k := 2) (n := 12) (Nat.le_refl _) (Nat.le_refl _) ?_
  refine lv_iload_n hx hb dX10_meet_10 rfl (lv_at hl 3 rfl) ?_
  refine lv_iconst (v := (3 : Int32)) hx hb dX10_meet_11 (by decide) ?_
  replace hf := xsBd_use hf
  obtain ⟨o7, h8, hf⟩ := hf
  refine xs_xcallv hS (xs_xrunS (As := [.int a2, .int (3 : Int32)]) C (mX10_checkQuestion l hst  h8) w_1142 w_1143 w_105 w_1144 hd_X10_checkQuestion ⟨rfl, rfl, Nat.le_of_ble_eq_true rfl, Nat.le_of_ble_eq_true rfl, Nat.le_of_ble_eq_true rfl, Nat.le_of_ble_eq_true rfl⟩ hP hD hS hl.1 rfl (Nat.le_of_ble_eq_true rfl) dX10_meet_12) (fun n u q H locs hpx hP hD hS hq => ?_) (fun u H locs hp hP hD hS => ?_)
  · obtain ⟨tx, e1, e2⟩ := hpx
    subst e1
    subst e2
    have ho := Option.some.inj hf
    subst ho
    rw [hXq]
    exact xs_xpass hlk hout ⟨_, rfl, rfl⟩ hP hD hS hq (Nat.le_of_ble_eq_true rfl) (Nat.le_of_ble_eq_true rfl)
  obtain ⟨v9, e1, e3⟩ := hp
  subst e1
  subst e3
  replace hf := xsTh_use hf
  refine W.widen (k := 3) (n := 18) (Nat.le_refl _) (Nat.le_refl _) ?_
  refine lv_iload_n hx hb dX10_meet_15 rfl (lv_at hl 1 rfl) ?_
  refine lv_iload_n hx hb dX10_meet_16 rfl (lv_at hl 2 rfl) ?_
  replace hf := xsBd_use hf
  obtain ⟨o10, h11, hf⟩ := hf
  refine xs_xcallv hS (xs_xrunS (As := [.int a0, .int a1]) C (mX10_checkTwo l hst  h11) w_1118 w_1119 w_105 w_1120 hd_X10_checkTwo ⟨rfl, rfl, Nat.le_of_ble_eq_true rfl, Nat.le_of_ble_eq_true rfl, Nat.le_of_ble_eq_true rfl, Nat.le_of_ble_eq_true rfl⟩ hP hD hS hl.1 rfl (Nat.le_of_ble_eq_true rfl) dX10_meet_17) (fun n u q H locs hpx hP hD hS hq => ?_) (fun u H locs hp hP hD hS => ?_)
  · obtain ⟨tx, e1, e2⟩ := hpx
    subst e1
    subst e2
    have ho := Option.some.inj hf
    subst ho
    rw [hXq]
    exact xs_xpass hlk hout ⟨_, rfl, rfl⟩ hP hD hS hq (Nat.le_of_ble_eq_true rfl) (Nat.le_of_ble_eq_true rfl)
  obtain ⟨v12, e1, e3⟩ := hp
  subst e1
  subst e3
  replace hf := xsTh_use hf
  refine W.widen (k := 4) (n := 24) (Nat.le_refl _) (Nat.le_refl _) ?_
  refine lv_aload_n hx hb dX10_meet_20 rfl (lv_at hl 0 rfl) ?_
  refine lv_iload_n hx hb dX10_meet_21 rfl (lv_at hl 1 rfl) ?_
  refine lv_iload_n hx hb dX10_meet_22 rfl (lv_at hl 2 rfl) ?_
  replace hf := xsBd_use hf
  obtain ⟨o13, h14, hf⟩ := hf
  refine xs_callr hS (xs_runV (As := [.int a0, .int a1]) C (mX10_encounterOf l hs_0 h14) w_1126 w_1128 w_29 w_105 w_1129 hd_X10_encounterOf ⟨rfl, rfl, Nat.le_of_ble_eq_true rfl, Nat.le_of_ble_eq_true rfl, Nat.le_of_ble_eq_true rfl, Nat.le_of_ble_eq_true rfl⟩ hP hD hS lk_X10 rfl hl.1 rfl (Nat.le_of_ble_eq_true rfl) dX10_meet_23) (fun H locs hP hD hS => ?_)
  refine lv_astore (lv' := [(4, .ref (xsA X 7)), (0, .ref (xsA X 0)), (1, .int a0), (2, .int a1), (3, .int a2)]) hx hb dX10_meet_26 hl (by decide) rfl (fun ls hl => ?_)
  refine lv_aload hx hb dX10_meet_28 (lv_at hl 0 rfl) ?_
  refine xg_X10_213 C hP dX10_meet_30 ?_
  refine lv_iconst (v := (1 : Int32)) hx hb dX10_meet_33 (by decide) ?_
  refine lv_icmp_eq (tgt := 47) hx hb dX10_meet_34 (by decide) (fun c17 => ?_) (fun c17 => ?_)
  · replace hf := xsBr_t c17 hf
    refine lv_aload hx hb dX10_meet_47 (lv_at hl 0 rfl) ?_
    refine xg_X10_226 C hP dX10_meet_49 ?_
    refine lv_aload hx hb dX10_meet_52 (lv_at hl 0 rfl) ?_
    refine xg_X10_230 C hP dX10_meet_54 ?_
    refine lv_aload hx hb dX10_meet_57 (lv_at hl 0 rfl) ?_
    refine xg_X10_233 C hP dX10_meet_59 ?_
    refine lv_iload_n hx hb dX10_meet_62 rfl (lv_at hl 4 rfl) ?_
    replace hf := xsBd_use hf
    obtain ⟨o15, h16, hf⟩ := hf
    refine xs_calll hS (xs_runS (As := [.long o13.2.1, .long o13.2.2.1, .long o13.2.2.2.1, .int a2]) C (mX10_partOfPoint l  h16) w_1147 w_1148 w_105 w_1149 hd_X10_partOfPoint ⟨rfl, rfl, Nat.le_of_ble_eq_true rfl, Nat.le_of_ble_eq_true rfl, Nat.le_of_ble_eq_true rfl, Nat.le_of_ble_eq_true rfl⟩ hP hD hS hl.1 rfl (Nat.le_of_ble_eq_true rfl) dX10_meet_63) (fun H locs hP hD hS => ?_)
    have ho := Option.some.inj hf
    subst ho
    rw [hQq]
    exact xs_xlret C hr hlk ⟨_, rfl, rfl, rfl⟩ hP hD hS (Nat.le_of_ble_eq_true rfl) (Nat.le_of_ble_eq_true rfl) dX10_meet_66
  · replace hf := xsBr_f c17 hf
    have ho := Option.some.inj hf
    subst ho
    rw [hXq]
    obtain ⟨sa, hsa⟩ := C.2.2.2.2.2.2.2.2.2.1.1.2.2.2.2.2.2.2.2.2.2.1
    exact xs_thr 2 hst C (by decide) w_993 w_124 hsa xsBad2 hP hD hS hl.1 dX10_meet_37 dX10_meet_40 dX10_meet_41 dX10_meet_43 dX10_meet_46 hout ⟨Nat.le_of_ble_eq_true rfl, Nat.le_of_ble_eq_true rfl, Nat.le_of_ble_eq_true rfl, Nat.le_of_ble_eq_true rfl⟩ hlk (Nat.le_of_ble_eq_true rfl) (Nat.le_of_ble_eq_true rfl) ⟨_, rfl, rfl⟩
set_option maxRecDepth 100000 in
set_option maxHeartbeats 8000000 in
theorem mX10_along (l : Launch) (hst : l.stackTraces = false) {X : xsX} {kIsKept kIsStale hiLatest hiSize scLength scFault scAt scNumber piSegmentsNow enKind enFromX enFromY enToX enToY tiMeetingPairs tiAlongPairs tiSize evSize evCrossings evSegmentsNow grEdges grQueued huSize huBestX huBestY : Int32} {scBytes scTold tiTouching tiLyingAlong evBundle evCrossingOf evEventOf evLeftEvent evRightEvent grDegree grFar grQueue huX huY : Nat → Int32} {enX enY enLower : Int64} {evX evY evLower : Nat → Int64} {S : Nat → xsV} {Rw : va_W} {g0Lx g0Ly g0Rx g0Ry g0Ti : Nat → Int32} {g0Sz : Int32} (hs_0 : S 0 = (g0Lx, g0Ly, g0Rx, g0Ry, g0Ti, g0Sz)) {a0 : Int32} {a1 : Int32} {a2 : Int32} {out : (Int32 × Int32 × Int64 × Int64 × Int64 × Int32 × Int32 × Int32 × Int32) ⊕ (Nat × (Int32 × Int64 × Int64 × Int64 × Int32 × Int32 × Int32 × Int32))} (hf : fX10_along enKind enX enY enLower enFromX enFromY enToX enToY g0Lx g0Ly g0Rx g0Ry g0Sz a0 a1 a2 = some out) : vx_Met l yX10_along (xsWs yX10_along cX10_along 5 (some .int)) { frames := 8, cells := 5, slots := 30, locals := 132 } (xsP X (wK X kIsKept kIsStale hiLatest hiSize scBytes scTold scLength scFault scAt scNumber piSegmentsNow enKind enX enY enLower enFromX enFromY enToX enToY tiTouching tiLyingAlong tiMeetingPairs tiAlongPairs tiSize evX evY evLower evBundle evCrossingOf evEventOf evLeftEvent evRightEvent evSize evCrossings evSegmentsNow grDegree grEdges grFar grQueue grQueued huX huY huSize huBestX huBestY S Rw) [.ref (xsA X 0), .int a0, .int a1, .int a2]) (xsXi X (fun r u => ∃ tt, out = .inl tt ∧ r = tt.1 ∧ u = wK X kIsKept kIsStale hiLatest hiSize scBytes scTold scLength scFault scAt scNumber piSegmentsNow tt.2.1 tt.2.2.1 tt.2.2.2.1 tt.2.2.2.2.1 tt.2.2.2.2.2.1 tt.2.2.2.2.2.2.1 tt.2.2.2.2.2.2.2.1 tt.2.2.2.2.2.2.2.2 tiTouching tiLyingAlong tiMeetingPairs tiAlongPairs tiSize evX evY evLower evBundle evCrossingOf evEventOf evLeftEvent evRightEvent evSize evCrossings evSegmentsNow grDegree grEdges grFar grQueue grQueued huX huY huSize huBestX huBestY S Rw)) (xsXC X (fun n u => ∃ tt, out = .inr (n, tt) ∧ u = wK X kIsKept kIsStale hiLatest hiSize scBytes scTold scLength scFault scAt scNumber piSegmentsNow tt.1 tt.2.1 tt.2.2.1 tt.2.2.2.1 tt.2.2.2.2.1 tt.2.2.2.2.2.1 tt.2.2.2.2.2.2.1 tt.2.2.2.2.2.2.2 tiTouching tiLyingAlong tiMeetingPairs tiAlongPairs tiSize evX evY evLower evBundle evCrossingOf evEventOf evLeftEvent evRightEvent evSize evCrossings evSegmentsNow grDegree grEdges grFar grQueue grQueued huX huY huSize huBestX huBestY S Rw)) 5 30 (xsF X) := by
  refine xs_xmet RX10 (by decide) rfl (Nat.le_of_ble_eq_true rfl) ?_
  intro p e s m below meth c ls H locs C hout hP hD hS hr hlk hl
  have hx := C.1
  have hb := C.2.1
  have hl : lv_has ls 5 [(0, .ref (xsA X 0)), (1, .int a0), (2, .int a1), (3, .int a2)] := hl
  obtain ⟨Qq, hQq⟩ : ∃ Qq, Qq = xsXi X (fun r u => ∃ tt, out = .inl tt ∧ r = tt.1 ∧ u = wK X kIsKept kIsStale hiLatest hiSize scBytes scTold scLength scFault scAt scNumber piSegmentsNow tt.2.1 tt.2.2.1 tt.2.2.2.1 tt.2.2.2.2.1 tt.2.2.2.2.2.1 tt.2.2.2.2.2.2.1 tt.2.2.2.2.2.2.2.1 tt.2.2.2.2.2.2.2.2 tiTouching tiLyingAlong tiMeetingPairs tiAlongPairs tiSize evX evY evLower evBundle evCrossingOf evEventOf evLeftEvent evRightEvent evSize evCrossings evSegmentsNow grDegree grEdges grFar grQueue grQueued huX huY huSize huBestX huBestY S Rw) := ⟨_, rfl⟩
  rw [← hQq]
  obtain ⟨Xq, hXq⟩ : ∃ Xq, Xq = xsXC X (fun n u => ∃ tt, out = .inr (n, tt) ∧ u = wK X kIsKept kIsStale hiLatest hiSize scBytes scTold scLength scFault scAt scNumber piSegmentsNow tt.1 tt.2.1 tt.2.2.1 tt.2.2.2.1 tt.2.2.2.2.1 tt.2.2.2.2.2.1 tt.2.2.2.2.2.2.1 tt.2.2.2.2.2.2.2 tiTouching tiLyingAlong tiMeetingPairs tiAlongPairs tiSize evX evY evLower evBundle evCrossingOf evEventOf evLeftEvent evRightEvent evSize evCrossings evSegmentsNow grDegree grEdges grFar grQueue grQueued huX huY huSize huBestX huBestY S Rw) := ⟨_, rfl⟩
  rw [← hXq]
  unfold fX10_along at hf
  refine lv_aload_n hx hb dX10_along_0 rfl (lv_at hl 0 rfl) ?_
  refine lv_iload_n hx hb dX10_along_1 rfl (lv_at hl 1 rfl) ?_
  replace hf := xsBd_use hf
  obtain ⟨o1, h2, hf⟩ := hf
  refine xs_xcallv hS (xs_xrunV (As := [.int a0]) C (mX10_checkSegment l hst hs_0 h2) w_1018 w_1020 w_28 w_105 w_1021 hd_X10_checkSegment ⟨rfl, rfl, Nat.le_of_ble_eq_true rfl, Nat.le_of_ble_eq_true rfl, Nat.le_of_ble_eq_true rfl, Nat.le_of_ble_eq_true rfl⟩ hP hD hS lk_X10 rfl hl.1 rfl (Nat.le_of_ble_eq_true rfl) dX10_along_2) (fun n u q H locs hpx hP hD hS hq => ?_) (fun u H locs hp hP hD hS => ?_)
  · obtain ⟨tx, e1, e2⟩ := hpx
    subst e1
    subst e2
    have ho := Option.some.inj hf
    subst ho
    rw [hXq]
    exact xs_xpass hlk hout ⟨_, rfl, rfl⟩ hP hD hS hq (Nat.le_of_ble_eq_true rfl) (Nat.le_of_ble_eq_true rfl)
  obtain ⟨v3, e1, e3⟩ := hp
  subst e1
  subst e3
  replace hf := xsTh_use hf
  refine W.widen (k := 1) (n := 6) (Nat.le_refl _) (Nat.le_refl _) ?_
  refine lv_aload_n hx hb dX10_along_5 rfl (lv_at hl 0 rfl) ?_
  refine lv_iload_n hx hb dX10_along_6 rfl (lv_at hl 2 rfl) ?_
  replace hf := xsBd_use hf
  obtain ⟨o4, h5, hf⟩ := hf
  refine xs_xcallv hS (xs_xrunV (As := [.int a1]) C (mX10_checkSegment l hst hs_0 h5) w_1018 w_1020 w_28 w_105 w_1021 hd_X10_checkSegment ⟨rfl, rfl, Nat.le_of_ble_eq_true rfl, Nat.le_of_ble_eq_true rfl, Nat.le_of_ble_eq_true rfl, Nat.le_of_ble_eq_true rfl⟩ hP hD hS lk_X10 rfl hl.1 rfl (Nat.le_of_ble_eq_true rfl) dX10_along_7) (fun n u q H locs hpx hP hD hS hq => ?_) (fun u H locs hp hP hD hS => ?_)
  · obtain ⟨tx, e1, e2⟩ := hpx
    subst e1
    subst e2
    have ho := Option.some.inj hf
    subst ho
    rw [hXq]
    exact xs_xpass hlk hout ⟨_, rfl, rfl⟩ hP hD hS hq (Nat.le_of_ble_eq_true rfl) (Nat.le_of_ble_eq_true rfl)
  obtain ⟨v6, e1, e3⟩ := hp
  subst e1
  subst e3
  replace hf := xsTh_use hf
  refine W.widen (k := 2) (n := 12) (Nat.le_refl _) (Nat.le_refl _) ?_
  refine lv_iload_n hx hb dX10_along_10 rfl (lv_at hl 3 rfl) ?_
  refine lv_iconst (v := (3 : Int32)) hx hb dX10_along_11 (by decide) ?_
  replace hf := xsBd_use hf
  obtain ⟨o7, h8, hf⟩ := hf
  refine xs_xcallv hS (xs_xrunS (As := [.int a2, .int (3 : Int32)]) C (mX10_checkQuestion l hst  h8) w_1142 w_1143 w_105 w_1144 hd_X10_checkQuestion ⟨rfl, rfl, Nat.le_of_ble_eq_true rfl, Nat.le_of_ble_eq_true rfl, Nat.le_of_ble_eq_true rfl, Nat.le_of_ble_eq_true rfl⟩ hP hD hS hl.1 rfl (Nat.le_of_ble_eq_true rfl) dX10_along_12) (fun n u q H locs hpx hP hD hS hq => ?_) (fun u H locs hp hP hD hS => ?_)
  · obtain ⟨tx, e1, e2⟩ := hpx
    subst e1
    subst e2
    have ho := Option.some.inj hf
    subst ho
    rw [hXq]
    exact xs_xpass hlk hout ⟨_, rfl, rfl⟩ hP hD hS hq (Nat.le_of_ble_eq_true rfl) (Nat.le_of_ble_eq_true rfl)
  obtain ⟨v9, e1, e3⟩ := hp
  subst e1
  subst e3
  replace hf := xsTh_use hf
  refine W.widen (k := 3) (n := 18) (Nat.le_refl _) (Nat.le_refl _) ?_
  refine lv_iload_n hx hb dX10_along_15 rfl (lv_at hl 1 rfl) ?_
  refine lv_iload_n hx hb dX10_along_16 rfl (lv_at hl 2 rfl) ?_
  replace hf := xsBd_use hf
  obtain ⟨o10, h11, hf⟩ := hf
  refine xs_xcallv hS (xs_xrunS (As := [.int a0, .int a1]) C (mX10_checkTwo l hst  h11) w_1118 w_1119 w_105 w_1120 hd_X10_checkTwo ⟨rfl, rfl, Nat.le_of_ble_eq_true rfl, Nat.le_of_ble_eq_true rfl, Nat.le_of_ble_eq_true rfl, Nat.le_of_ble_eq_true rfl⟩ hP hD hS hl.1 rfl (Nat.le_of_ble_eq_true rfl) dX10_along_17) (fun n u q H locs hpx hP hD hS hq => ?_) (fun u H locs hp hP hD hS => ?_)
  · obtain ⟨tx, e1, e2⟩ := hpx
    subst e1
    subst e2
    have ho := Option.some.inj hf
    subst ho
    rw [hXq]
    exact xs_xpass hlk hout ⟨_, rfl, rfl⟩ hP hD hS hq (Nat.le_of_ble_eq_true rfl) (Nat.le_of_ble_eq_true rfl)
  obtain ⟨v12, e1, e3⟩ := hp
  subst e1
  subst e3
  replace hf := xsTh_use hf
  refine W.widen (k := 4) (n := 24) (Nat.le_refl _) (Nat.le_refl _) ?_
  refine lv_aload_n hx hb dX10_along_20 rfl (lv_at hl 0 rfl) ?_
  refine lv_iload_n hx hb dX10_along_21 rfl (lv_at hl 1 rfl) ?_
  refine lv_iload_n hx hb dX10_along_22 rfl (lv_at hl 2 rfl) ?_
  replace hf := xsBd_use hf
  obtain ⟨o13, h14, hf⟩ := hf
  refine xs_callr hS (xs_runV (As := [.int a0, .int a1]) C (mX10_encounterOf l hs_0 h14) w_1126 w_1128 w_29 w_105 w_1129 hd_X10_encounterOf ⟨rfl, rfl, Nat.le_of_ble_eq_true rfl, Nat.le_of_ble_eq_true rfl, Nat.le_of_ble_eq_true rfl, Nat.le_of_ble_eq_true rfl⟩ hP hD hS lk_X10 rfl hl.1 rfl (Nat.le_of_ble_eq_true rfl) dX10_along_23) (fun H locs hP hD hS => ?_)
  refine lv_astore (lv' := [(4, .ref (xsA X 7)), (0, .ref (xsA X 0)), (1, .int a0), (2, .int a1), (3, .int a2)]) hx hb dX10_along_26 hl (by decide) rfl (fun ls hl => ?_)
  refine lv_aload hx hb dX10_along_28 (lv_at hl 0 rfl) ?_
  refine xg_X10_213 C hP dX10_along_30 ?_
  refine lv_iconst (v := (2 : Int32)) hx hb dX10_along_33 (by decide) ?_
  refine lv_icmp_eq (tgt := 47) hx hb dX10_along_34 (by decide) (fun c16 => ?_) (fun c16 => ?_)
  · replace hf := xsBr_t c16 hf
    refine lv_iload_n hx hb dX10_along_47 rfl (lv_at hl 4 rfl) ?_
    by_cases c15_0 : a2 = 0
    · replace hf := xsBr_t c15_0 hf
      refine lv_tableIn (tgt := 76) hx hb dX10_along_48 (by rw [c15_0]; decide) (by rw [c15_0]; decide) (by rw [c15_0]; rfl) (by decide) ?_
      refine lv_aload hx hb dX10_along_76 (lv_at hl 0 rfl) ?_
      refine xg_X10_242 C hP dX10_along_78 ?_
      have ho := Option.some.inj hf
      subst ho
      rw [hQq]
      exact xs_xiret C hr hlk ⟨_, rfl, rfl, rfl⟩ hP hD hS (Nat.le_of_ble_eq_true rfl) (Nat.le_of_ble_eq_true rfl) dX10_along_81
    replace hf := xsBr_f c15_0 hf
    by_cases c15_1 : a2 = 1
    · replace hf := xsBr_t c15_1 hf
      refine lv_tableIn (tgt := 82) hx hb dX10_along_48 (by rw [c15_1]; decide) (by rw [c15_1]; decide) (by rw [c15_1]; rfl) (by decide) ?_
      refine lv_aload hx hb dX10_along_82 (lv_at hl 0 rfl) ?_
      refine xg_X10_245 C hP dX10_along_84 ?_
      have ho := Option.some.inj hf
      subst ho
      rw [hQq]
      exact xs_xiret C hr hlk ⟨_, rfl, rfl, rfl⟩ hP hD hS (Nat.le_of_ble_eq_true rfl) (Nat.le_of_ble_eq_true rfl) dX10_along_87
    replace hf := xsBr_f c15_1 hf
    by_cases c15_2 : a2 = 2
    · replace hf := xsBr_t c15_2 hf
      refine lv_tableIn (tgt := 88) hx hb dX10_along_48 (by rw [c15_2]; decide) (by rw [c15_2]; decide) (by rw [c15_2]; rfl) (by decide) ?_
      refine lv_aload hx hb dX10_along_88 (lv_at hl 0 rfl) ?_
      refine xg_X10_248 C hP dX10_along_90 ?_
      have ho := Option.some.inj hf
      subst ho
      rw [hQq]
      exact xs_xiret C hr hlk ⟨_, rfl, rfl, rfl⟩ hP hD hS (Nat.le_of_ble_eq_true rfl) (Nat.le_of_ble_eq_true rfl) dX10_along_93
    replace hf := xsBr_f c15_2 hf
    refine lv_tableOut (tgt := 94) hx hb dX10_along_48 (xs_swo [0, 1, 2] (by decide) ⟨c15_0, c15_1, c15_2, trivial⟩) (by decide) ?_
    refine lv_aload hx hb dX10_along_94 (lv_at hl 0 rfl) ?_
    refine xg_X10_251 C hP dX10_along_96 ?_
    have ho := Option.some.inj hf
    subst ho
    rw [hQq]
    exact xs_xiret C hr hlk ⟨_, rfl, rfl, rfl⟩ hP hD hS (Nat.le_of_ble_eq_true rfl) (Nat.le_of_ble_eq_true rfl) dX10_along_99
  · replace hf := xsBr_f c16 hf
    have ho := Option.some.inj hf
    subst ho
    rw [hXq]
    obtain ⟨sa, hsa⟩ := C.2.2.2.2.2.2.2.2.2.1.1.2.2.2.2.2.2.2.2.2.2.2.1
    exact xs_thr 2 hst C (by decide) w_993 w_124 hsa xsBad2 hP hD hS hl.1 dX10_along_37 dX10_along_40 dX10_along_41 dX10_along_43 dX10_along_46 hout ⟨Nat.le_of_ble_eq_true rfl, Nat.le_of_ble_eq_true rfl, Nat.le_of_ble_eq_true rfl, Nat.le_of_ble_eq_true rfl⟩ hlk (Nat.le_of_ble_eq_true rfl) (Nat.le_of_ble_eq_true rfl) ⟨_, rfl, rfl⟩
set_option maxRecDepth 100000 in
set_option maxHeartbeats 8000000 in
theorem mX10_crossing (l : Launch) (hst : l.stackTraces = false) {X : xsX} {kIsKept kIsStale hiLatest hiSize scLength scFault scAt scNumber piSegmentsNow enKind enFromX enFromY enToX enToY tiMeetingPairs tiAlongPairs tiSize evSize evCrossings evSegmentsNow grEdges grQueued huSize huBestX huBestY : Int32} {scBytes scTold tiTouching tiLyingAlong evBundle evCrossingOf evEventOf evLeftEvent evRightEvent grDegree grFar grQueue huX huY : Nat → Int32} {enX enY enLower : Int64} {evX evY evLower : Nat → Int64} {S : Nat → xsV} {Rw : va_W} {g0Lx g0Ly g0Rx g0Ry g0Ti : Nat → Int32} {g0Sz : Int32} (hs_0 : S 0 = (g0Lx, g0Ly, g0Rx, g0Ry, g0Ti, g0Sz)) {a0 : Int32} {a1 : Int32} {out : (Int64 × Int32 × Int32 × Int32 × Int64 × Int64 × Int64 × Int32 × Int32 × Int32 × Int32 × (Nat → Int32) × (Nat → Int32) × Int32 × Int32 × Int32 × (Nat → Int64) × (Nat → Int64) × (Nat → Int64) × (Nat → Int32) × (Nat → Int32) × (Nat → Int32) × (Nat → Int32) × (Nat → Int32) × Int32 × Int32 × Int32 × (Nat → Int32) × Int32) ⊕ (Nat × (Int32 × Int32 × Int32 × Int64 × Int64 × Int64 × Int32 × Int32 × Int32 × Int32 × (Nat → Int32) × (Nat → Int32) × Int32 × Int32 × Int32 × (Nat → Int64) × (Nat → Int64) × (Nat → Int64) × (Nat → Int32) × (Nat → Int32) × (Nat → Int32) × (Nat → Int32) × (Nat → Int32) × Int32 × Int32 × Int32 × (Nat → Int32) × Int32))} (hf : fX10_crossing kIsStale piSegmentsNow enKind enX enY enLower enFromX enFromY enToX enToY tiTouching tiLyingAlong tiMeetingPairs tiAlongPairs tiSize evX evY evLower evBundle evCrossingOf evEventOf evLeftEvent evRightEvent evSize evCrossings evSegmentsNow grDegree grEdges g0Lx g0Ly g0Rx g0Ry g0Ti g0Sz a0 a1 = some out) : vx_Met l yX10_crossing (xsWs yX10_crossing cX10_crossing 6 (some .long)) { frames := 7, cells := 2, slots := 12, locals := 153 } (xsP X (wK X kIsKept kIsStale hiLatest hiSize scBytes scTold scLength scFault scAt scNumber piSegmentsNow enKind enX enY enLower enFromX enFromY enToX enToY tiTouching tiLyingAlong tiMeetingPairs tiAlongPairs tiSize evX evY evLower evBundle evCrossingOf evEventOf evLeftEvent evRightEvent evSize evCrossings evSegmentsNow grDegree grEdges grFar grQueue grQueued huX huY huSize huBestX huBestY S Rw) [.ref (xsA X 0), .int a0, .int a1]) (xsXl X (fun r u => ∃ tt, out = .inl tt ∧ r = tt.1 ∧ u = wK X kIsKept tt.2.1 hiLatest hiSize scBytes scTold scLength scFault scAt scNumber tt.2.2.1 tt.2.2.2.1 tt.2.2.2.2.1 tt.2.2.2.2.2.1 tt.2.2.2.2.2.2.1 tt.2.2.2.2.2.2.2.1 tt.2.2.2.2.2.2.2.2.1 tt.2.2.2.2.2.2.2.2.2.1 tt.2.2.2.2.2.2.2.2.2.2.1 tt.2.2.2.2.2.2.2.2.2.2.2.1 tt.2.2.2.2.2.2.2.2.2.2.2.2.1 tt.2.2.2.2.2.2.2.2.2.2.2.2.2.1 tt.2.2.2.2.2.2.2.2.2.2.2.2.2.2.1 tt.2.2.2.2.2.2.2.2.2.2.2.2.2.2.2.1 tt.2.2.2.2.2.2.2.2.2.2.2.2.2.2.2.2.1 tt.2.2.2.2.2.2.2.2.2.2.2.2.2.2.2.2.2.1 tt.2.2.2.2.2.2.2.2.2.2.2.2.2.2.2.2.2.2.1 tt.2.2.2.2.2.2.2.2.2.2.2.2.2.2.2.2.2.2.2.1 tt.2.2.2.2.2.2.2.2.2.2.2.2.2.2.2.2.2.2.2.2.1 tt.2.2.2.2.2.2.2.2.2.2.2.2.2.2.2.2.2.2.2.2.2.1 tt.2.2.2.2.2.2.2.2.2.2.2.2.2.2.2.2.2.2.2.2.2.2.1 tt.2.2.2.2.2.2.2.2.2.2.2.2.2.2.2.2.2.2.2.2.2.2.2.1 tt.2.2.2.2.2.2.2.2.2.2.2.2.2.2.2.2.2.2.2.2.2.2.2.2.1 tt.2.2.2.2.2.2.2.2.2.2.2.2.2.2.2.2.2.2.2.2.2.2.2.2.2.1 tt.2.2.2.2.2.2.2.2.2.2.2.2.2.2.2.2.2.2.2.2.2.2.2.2.2.2.1 tt.2.2.2.2.2.2.2.2.2.2.2.2.2.2.2.2.2.2.2.2.2.2.2.2.2.2.2.1 tt.2.2.2.2.2.2.2.2.2.2.2.2.2.2.2.2.2.2.2.2.2.2.2.2.2.2.2.2 grFar grQueue grQueued huX huY huSize huBestX huBestY S Rw)) (xsXC X (fun n u => ∃ tt, out = .inr (n, tt) ∧ u = wK X kIsKept tt.1 hiLatest hiSize scBytes scTold scLength scFault scAt scNumber tt.2.1 tt.2.2.1 tt.2.2.2.1 tt.2.2.2.2.1 tt.2.2.2.2.2.1 tt.2.2.2.2.2.2.1 tt.2.2.2.2.2.2.2.1 tt.2.2.2.2.2.2.2.2.1 tt.2.2.2.2.2.2.2.2.2.1 tt.2.2.2.2.2.2.2.2.2.2.1 tt.2.2.2.2.2.2.2.2.2.2.2.1 tt.2.2.2.2.2.2.2.2.2.2.2.2.1 tt.2.2.2.2.2.2.2.2.2.2.2.2.2.1 tt.2.2.2.2.2.2.2.2.2.2.2.2.2.2.1 tt.2.2.2.2.2.2.2.2.2.2.2.2.2.2.2.1 tt.2.2.2.2.2.2.2.2.2.2.2.2.2.2.2.2.1 tt.2.2.2.2.2.2.2.2.2.2.2.2.2.2.2.2.2.1 tt.2.2.2.2.2.2.2.2.2.2.2.2.2.2.2.2.2.2.1 tt.2.2.2.2.2.2.2.2.2.2.2.2.2.2.2.2.2.2.2.1 tt.2.2.2.2.2.2.2.2.2.2.2.2.2.2.2.2.2.2.2.2.1 tt.2.2.2.2.2.2.2.2.2.2.2.2.2.2.2.2.2.2.2.2.2.1 tt.2.2.2.2.2.2.2.2.2.2.2.2.2.2.2.2.2.2.2.2.2.2.1 tt.2.2.2.2.2.2.2.2.2.2.2.2.2.2.2.2.2.2.2.2.2.2.2.1 tt.2.2.2.2.2.2.2.2.2.2.2.2.2.2.2.2.2.2.2.2.2.2.2.2.1 tt.2.2.2.2.2.2.2.2.2.2.2.2.2.2.2.2.2.2.2.2.2.2.2.2.2.1 tt.2.2.2.2.2.2.2.2.2.2.2.2.2.2.2.2.2.2.2.2.2.2.2.2.2.2.1 tt.2.2.2.2.2.2.2.2.2.2.2.2.2.2.2.2.2.2.2.2.2.2.2.2.2.2.2 grFar grQueue grQueued huX huY huSize huBestX huBestY S Rw)) 2 12 (xsF X) := by
  refine xs_xmet RX10 (by decide) rfl (Nat.le_of_ble_eq_true rfl) ?_
  intro p e s m below meth c ls H locs C hout hP hD hS hr hlk hl
  have hx := C.1
  have hb := C.2.1
  have hl : lv_has ls 6 [(0, .ref (xsA X 0)), (1, .int a0), (2, .int a1)] := hl
  obtain ⟨Qq, hQq⟩ : ∃ Qq, Qq = xsXl X (fun r u => ∃ tt, out = .inl tt ∧ r = tt.1 ∧ u = wK X kIsKept tt.2.1 hiLatest hiSize scBytes scTold scLength scFault scAt scNumber tt.2.2.1 tt.2.2.2.1 tt.2.2.2.2.1 tt.2.2.2.2.2.1 tt.2.2.2.2.2.2.1 tt.2.2.2.2.2.2.2.1 tt.2.2.2.2.2.2.2.2.1 tt.2.2.2.2.2.2.2.2.2.1 tt.2.2.2.2.2.2.2.2.2.2.1 tt.2.2.2.2.2.2.2.2.2.2.2.1 tt.2.2.2.2.2.2.2.2.2.2.2.2.1 tt.2.2.2.2.2.2.2.2.2.2.2.2.2.1 tt.2.2.2.2.2.2.2.2.2.2.2.2.2.2.1 tt.2.2.2.2.2.2.2.2.2.2.2.2.2.2.2.1 tt.2.2.2.2.2.2.2.2.2.2.2.2.2.2.2.2.1 tt.2.2.2.2.2.2.2.2.2.2.2.2.2.2.2.2.2.1 tt.2.2.2.2.2.2.2.2.2.2.2.2.2.2.2.2.2.2.1 tt.2.2.2.2.2.2.2.2.2.2.2.2.2.2.2.2.2.2.2.1 tt.2.2.2.2.2.2.2.2.2.2.2.2.2.2.2.2.2.2.2.2.1 tt.2.2.2.2.2.2.2.2.2.2.2.2.2.2.2.2.2.2.2.2.2.1 tt.2.2.2.2.2.2.2.2.2.2.2.2.2.2.2.2.2.2.2.2.2.2.1 tt.2.2.2.2.2.2.2.2.2.2.2.2.2.2.2.2.2.2.2.2.2.2.2.1 tt.2.2.2.2.2.2.2.2.2.2.2.2.2.2.2.2.2.2.2.2.2.2.2.2.1 tt.2.2.2.2.2.2.2.2.2.2.2.2.2.2.2.2.2.2.2.2.2.2.2.2.2.1 tt.2.2.2.2.2.2.2.2.2.2.2.2.2.2.2.2.2.2.2.2.2.2.2.2.2.2.1 tt.2.2.2.2.2.2.2.2.2.2.2.2.2.2.2.2.2.2.2.2.2.2.2.2.2.2.2.1 tt.2.2.2.2.2.2.2.2.2.2.2.2.2.2.2.2.2.2.2.2.2.2.2.2.2.2.2.2 grFar grQueue grQueued huX huY huSize huBestX huBestY S Rw) := ⟨_, rfl⟩
  rw [← hQq]
  obtain ⟨Xq, hXq⟩ : ∃ Xq, Xq = xsXC X (fun n u => ∃ tt, out = .inr (n, tt) ∧ u = wK X kIsKept tt.1 hiLatest hiSize scBytes scTold scLength scFault scAt scNumber tt.2.1 tt.2.2.1 tt.2.2.2.1 tt.2.2.2.2.1 tt.2.2.2.2.2.1 tt.2.2.2.2.2.2.1 tt.2.2.2.2.2.2.2.1 tt.2.2.2.2.2.2.2.2.1 tt.2.2.2.2.2.2.2.2.2.1 tt.2.2.2.2.2.2.2.2.2.2.1 tt.2.2.2.2.2.2.2.2.2.2.2.1 tt.2.2.2.2.2.2.2.2.2.2.2.2.1 tt.2.2.2.2.2.2.2.2.2.2.2.2.2.1 tt.2.2.2.2.2.2.2.2.2.2.2.2.2.2.1 tt.2.2.2.2.2.2.2.2.2.2.2.2.2.2.2.1 tt.2.2.2.2.2.2.2.2.2.2.2.2.2.2.2.2.1 tt.2.2.2.2.2.2.2.2.2.2.2.2.2.2.2.2.2.1 tt.2.2.2.2.2.2.2.2.2.2.2.2.2.2.2.2.2.2.1 tt.2.2.2.2.2.2.2.2.2.2.2.2.2.2.2.2.2.2.2.1 tt.2.2.2.2.2.2.2.2.2.2.2.2.2.2.2.2.2.2.2.2.1 tt.2.2.2.2.2.2.2.2.2.2.2.2.2.2.2.2.2.2.2.2.2.1 tt.2.2.2.2.2.2.2.2.2.2.2.2.2.2.2.2.2.2.2.2.2.2.1 tt.2.2.2.2.2.2.2.2.2.2.2.2.2.2.2.2.2.2.2.2.2.2.2.1 tt.2.2.2.2.2.2.2.2.2.2.2.2.2.2.2.2.2.2.2.2.2.2.2.2.1 tt.2.2.2.2.2.2.2.2.2.2.2.2.2.2.2.2.2.2.2.2.2.2.2.2.2.1 tt.2.2.2.2.2.2.2.2.2.2.2.2.2.2.2.2.2.2.2.2.2.2.2.2.2.2.1 tt.2.2.2.2.2.2.2.2.2.2.2.2.2.2.2.2.2.2.2.2.2.2.2.2.2.2.2 grFar grQueue grQueued huX huY huSize huBestX huBestY S Rw) := ⟨_, rfl⟩
  rw [← hXq]
  unfold fX10_crossing at hf
  refine lv_aload_n hx hb dX10_crossing_0 rfl (lv_at hl 0 rfl) ?_
  replace hf := xsBd_use hf
  obtain ⟨o1, h2, hf⟩ := hf
  refine xs_callr hS (xs_runV (As := []) C (mX10_drawn l hs_0 h2) w_535 w_537 w_2 w_105 w_538 hd_X10_drawn ⟨rfl, rfl, Nat.le_of_ble_eq_true rfl, Nat.le_of_ble_eq_true rfl, Nat.le_of_ble_eq_true rfl, Nat.le_of_ble_eq_true rfl⟩ hP hD hS lk_X10 rfl hl.1 rfl (Nat.le_of_ble_eq_true rfl) dX10_crossing_1) (fun H locs hP hD hS => ?_)
  refine xg_X10_129 C hP dX10_crossing_4 ?_
  refine lv_astore_n (lv' := [(3, .ref (xsA X 11)), (0, .ref (xsA X 0)), (1, .int a0), (2, .int a1)]) hx hb dX10_crossing_7 rfl hl (by decide) rfl (fun ls hl => ?_)
  refine lv_iload_n hx hb dX10_crossing_8 rfl (lv_at hl 2 rfl) ?_
  refine lv_aload_n hx hb dX10_crossing_9 rfl (lv_at hl 0 rfl) ?_
  refine xg_X10_133 C hP dX10_crossing_10 ?_
  replace hf := xsBd_use hf
  obtain ⟨o3, h4, hf⟩ := hf
  refine xs_xcallv hS (xs_xrunS (As := [.int a0, .int o1.2.2.2.2.2.2.2.2.2.2.2.2.2.2.2.2.2.2.2.2.2.2.2.2.1]) C (mX10_checkPlace l hst  h4) w_1022 w_1023 w_105 w_1024 hd_X10_checkPlace ⟨rfl, rfl, Nat.le_of_ble_eq_true rfl, Nat.le_of_ble_eq_true rfl, Nat.le_of_ble_eq_true rfl, Nat.le_of_ble_eq_true rfl⟩ hP hD hS hl.1 rfl (Nat.le_of_ble_eq_true rfl) dX10_crossing_13) (fun n u q H locs hpx hP hD hS hq => ?_) (fun u H locs hp hP hD hS => ?_)
  · obtain ⟨tx, e1, e2⟩ := hpx
    subst e1
    subst e2
    have ho := Option.some.inj hf
    subst ho
    rw [hXq]
    exact xs_xpass hlk hout ⟨_, rfl, rfl⟩ hP hD hS hq (Nat.le_of_ble_eq_true rfl) (Nat.le_of_ble_eq_true rfl)
  obtain ⟨v5, e1, e3⟩ := hp
  subst e1
  subst e3
  replace hf := xsTh_use hf
  refine W.widen (k := 1) (n := 6) (Nat.le_refl _) (Nat.le_refl _) ?_
  refine lv_iload_n hx hb dX10_crossing_16 rfl (lv_at hl 3 rfl) ?_
  refine lv_bipush (v := (6 : Int32)) hx hb dX10_crossing_17 (by decide) ?_
  replace hf := xsBd_use hf
  obtain ⟨o6, h7, hf⟩ := hf
  refine xs_xcallv hS (xs_xrunS (As := [.int a1, .int (6 : Int32)]) C (mX10_checkQuestion l hst  h7) w_1142 w_1143 w_105 w_1144 hd_X10_checkQuestion ⟨rfl, rfl, Nat.le_of_ble_eq_true rfl, Nat.le_of_ble_eq_true rfl, Nat.le_of_ble_eq_true rfl, Nat.le_of_ble_eq_true rfl⟩ hP hD hS hl.1 rfl (Nat.le_of_ble_eq_true rfl) dX10_crossing_19) (fun n u q H locs hpx hP hD hS hq => ?_) (fun u H locs hp hP hD hS => ?_)
  · obtain ⟨tx, e1, e2⟩ := hpx
    subst e1
    subst e2
    have ho := Option.some.inj hf
    subst ho
    rw [hXq]
    exact xs_xpass hlk hout ⟨_, rfl, rfl⟩ hP hD hS hq (Nat.le_of_ble_eq_true rfl) (Nat.le_of_ble_eq_true rfl)
  obtain ⟨v8, e1, e3⟩ := hp
  subst e1
  subst e3
  replace hf := xsTh_use hf
  refine W.widen (k := 2) (n := 12) (Nat.le_refl _) (Nat.le_refl _) ?_
  refine lv_aload_n hx hb dX10_crossing_22 rfl (lv_at hl 0 rfl) ?_
  refine xg_X10_257 C hP dX10_crossing_23 ?_
  refine lv_iload_n hx hb dX10_crossing_26 rfl (lv_at hl 2 rfl) ?_
  replace hf := xsCk_use hf
  obtain ⟨h9, hf⟩ := hf
  refine xl_evEventOf C hP h9 dX10_crossing_27 ?_
  refine lv_topi (fun x10 ex10 => ?_)
  replace hf := xsLt_use ex10 hf
  refine lv_istore (lv' := [(4, .int x10), (3, .ref (xsA X 11)), (0, .ref (xsA X 0)), (1, .int a0), (2, .int a1)]) hx hb dX10_crossing_28 hl (by decide) rfl (fun ls hl => ?_)
  refine lv_aload_n hx hb dX10_crossing_30 rfl (lv_at hl 1 rfl) ?_
  refine xg_X10_260 C hP dX10_crossing_31 ?_
  refine lv_iload hx hb dX10_crossing_34 (lv_at hl 0 rfl) ?_
  replace hf := xsCk_use hf
  obtain ⟨h11, hf⟩ := hf
  refine xl_evBundle C hP h11 dX10_crossing_36 ?_
  refine lv_topi (fun x12 ex12 => ?_)
  replace hf := xsLt_use ex12 hf
  refine lv_istore (lv' := [(5, .int x12), (4, .int x10), (3, .ref (xsA X 11)), (0, .ref (xsA X 0)), (1, .int a0), (2, .int a1)]) hx hb dX10_crossing_37 hl (by decide) rfl (fun ls hl => ?_)
  refine lv_iload_n hx hb dX10_crossing_39 rfl (lv_at hl 5 rfl) ?_
  by_cases c22_0 : a1 = 4
  · replace hf := xsBr_t c22_0 hf
    refine lv_tableIn (tgt := 68) hx hb dX10_crossing_40 (by rw [c22_0]; decide) (by rw [c22_0]; decide) (by rw [c22_0]; rfl) (by decide) ?_
    refine lv_iload hx hb dX10_crossing_68 (lv_at hl 0 rfl) ?_
    replace hf := xsBd_use hf
    obtain ⟨o13, h14, hf⟩ := hf
    refine xs_calli hS (xs_runS (As := [.int x12]) C (mJ6_bitCount_0f7a4 l  h14) w_1169 w_608 w_128 w_609 hd_J6_bitCount_0f7a4 ⟨rfl, rfl, Nat.le_of_ble_eq_true rfl, Nat.le_of_ble_eq_true rfl, Nat.le_of_ble_eq_true rfl, Nat.le_of_ble_eq_true rfl⟩ hP hD hS hl.1 rfl (Nat.le_of_ble_eq_true rfl) dX10_crossing_70) (fun H locs hP hD hS => ?_)
    refine lv_i2l hx hb dX10_crossing_73 rfl ?_
    have ho := Option.some.inj hf
    subst ho
    rw [hQq]
    exact xs_xlret C hr hlk ⟨_, rfl, rfl, rfl⟩ hP hD hS (Nat.le_of_ble_eq_true rfl) (Nat.le_of_ble_eq_true rfl) dX10_crossing_74
  replace hf := xsBr_f c22_0 hf
  by_cases c22_1 : a1 = 5
  · replace hf := xsBr_t c22_1 hf
    refine lv_tableIn (tgt := 75) hx hb dX10_crossing_40 (by rw [c22_1]; decide) (by rw [c22_1]; decide) (by rw [c22_1]; rfl) (by decide) ?_
    refine lv_iload hx hb dX10_crossing_75 (lv_at hl 0 rfl) ?_
    refine lv_i2l hx hb dX10_crossing_77 rfl ?_
    have ho := Option.some.inj hf
    subst ho
    rw [hQq]
    exact xs_xlret C hr hlk ⟨_, rfl, rfl, rfl⟩ hP hD hS (Nat.le_of_ble_eq_true rfl) (Nat.le_of_ble_eq_true rfl) dX10_crossing_78
  replace hf := xsBr_f c22_1 hf
  by_cases c22_2 : a1 = 6
  · replace hf := xsBr_t c22_2 hf
    refine lv_tableIn (tgt := 79) hx hb dX10_crossing_40 (by rw [c22_2]; decide) (by rw [c22_2]; decide) (by rw [c22_2]; rfl) (by decide) ?_
    refine lv_aload_n hx hb dX10_crossing_79 rfl (lv_at hl 3 rfl) ?_
    refine xg_X10_10 C hP dX10_crossing_80 ?_
    refine lv_iload hx hb dX10_crossing_83 (lv_at hl 0 rfl) ?_
    replace hf := xsBd_use hf
    obtain ⟨o15, h16, hf⟩ := hf
    refine xs_calli hS (xs_runV (As := [.int x12]) C (mX7_tintsOf l (js := 0) (by decide) hs_0 h16) w_1170 w_1171 w_1172 w_106 w_1173 hd_X7_tintsOf ⟨rfl, rfl, Nat.le_of_ble_eq_true rfl, Nat.le_of_ble_eq_true rfl, Nat.le_of_ble_eq_true rfl, Nat.le_of_ble_eq_true rfl⟩ hP hD hS (xs_lkS (by decide)) rfl hl.1 rfl (Nat.le_of_ble_eq_true rfl) dX10_crossing_85) (fun H locs hP hD hS => ?_)
    refine lv_i2l hx hb dX10_crossing_88 rfl ?_
    have ho := Option.some.inj hf
    subst ho
    rw [hQq]
    exact xs_xlret C hr hlk ⟨_, rfl, rfl, rfl⟩ hP hD hS (Nat.le_of_ble_eq_true rfl) (Nat.le_of_ble_eq_true rfl) dX10_crossing_89
  replace hf := xsBr_f c22_2 hf
  refine lv_tableOut (tgt := 90) hx hb dX10_crossing_40 (xs_swo [4, 5, 6] (by decide) ⟨c22_0, c22_1, c22_2, trivial⟩) (by decide) ?_
  refine lv_aload_n hx hb dX10_crossing_90 rfl (lv_at hl 2 rfl) ?_
  refine xg_X10_271 C hP dX10_crossing_91 ?_
  refine lv_iload hx hb dX10_crossing_94 (lv_at hl 1 rfl) ?_
  replace hf := xsCk_use hf
  obtain ⟨h17, hf⟩ := hf
  refine xl_evX C hP h17 dX10_crossing_96 ?_
  refine lv_aload_n hx hb dX10_crossing_97 rfl (lv_at hl 2 rfl) ?_
  refine xg_X10_274 C hP dX10_crossing_98 ?_
  refine lv_iload hx hb dX10_crossing_101 (lv_at hl 1 rfl) ?_
  replace hf := xsCk_use hf
  obtain ⟨h18, hf⟩ := hf
  refine xl_evY C hP h18 dX10_crossing_103 ?_
  refine lv_aload_n hx hb dX10_crossing_104 rfl (lv_at hl 2 rfl) ?_
  refine xg_X10_276 C hP dX10_crossing_105 ?_
  refine lv_iload hx hb dX10_crossing_108 (lv_at hl 1 rfl) ?_
  replace hf := xsCk_use hf
  obtain ⟨h19, hf⟩ := hf
  refine xl_evLower C hP h19 dX10_crossing_110 ?_
  refine lv_iload_n hx hb dX10_crossing_111 rfl (lv_at hl 5 rfl) ?_
  replace hf := xsBd_use hf
  obtain ⟨o20, h21, hf⟩ := hf
  refine xs_calll hS (xs_runS (As := [.long (o1.2.2.2.2.2.2.2.2.2.2.2.2.2.2.2.1 x10.toNatClampNeg), .long (o1.2.2.2.2.2.2.2.2.2.2.2.2.2.2.2.2.1 x10.toNatClampNeg), .long (o1.2.2.2.2.2.2.2.2.2.2.2.2.2.2.2.2.2.1 x10.toNatClampNeg), .int a1]) C (mX10_partOfPoint l  h21) w_1147 w_1148 w_105 w_1149 hd_X10_partOfPoint ⟨rfl, rfl, Nat.le_of_ble_eq_true rfl, Nat.le_of_ble_eq_true rfl, Nat.le_of_ble_eq_true rfl, Nat.le_of_ble_eq_true rfl⟩ hP hD hS hl.1 rfl (Nat.le_of_ble_eq_true rfl) dX10_crossing_112) (fun H locs hP hD hS => ?_)
  have ho := Option.some.inj hf
  subst ho
  rw [hQq]
  exact xs_xlret C hr hlk ⟨_, rfl, rfl, rfl⟩ hP hD hS (Nat.le_of_ble_eq_true rfl) (Nat.le_of_ble_eq_true rfl) dX10_crossing_115
set_option maxRecDepth 100000 in
set_option maxHeartbeats 8000000 in
theorem mX10_event (l : Launch) (hst : l.stackTraces = false) {X : xsX} {kIsKept kIsStale hiLatest hiSize scLength scFault scAt scNumber piSegmentsNow enKind enFromX enFromY enToX enToY tiMeetingPairs tiAlongPairs tiSize evSize evCrossings evSegmentsNow grEdges grQueued huSize huBestX huBestY : Int32} {scBytes scTold tiTouching tiLyingAlong evBundle evCrossingOf evEventOf evLeftEvent evRightEvent grDegree grFar grQueue huX huY : Nat → Int32} {enX enY enLower : Int64} {evX evY evLower : Nat → Int64} {S : Nat → xsV} {Rw : va_W} {g0Lx g0Ly g0Rx g0Ry g0Ti : Nat → Int32} {g0Sz : Int32} (hs_0 : S 0 = (g0Lx, g0Ly, g0Rx, g0Ry, g0Ti, g0Sz)) {a0 : Int32} {a1 : Int32} {out : (Int64 × Int32 × Int32 × Int32 × Int64 × Int64 × Int64 × Int32 × Int32 × Int32 × Int32 × (Nat → Int32) × (Nat → Int32) × Int32 × Int32 × Int32 × (Nat → Int64) × (Nat → Int64) × (Nat → Int64) × (Nat → Int32) × (Nat → Int32) × (Nat → Int32) × (Nat → Int32) × (Nat → Int32) × Int32 × Int32 × Int32 × (Nat → Int32) × Int32) ⊕ (Nat × (Int32 × Int32 × Int32 × Int64 × Int64 × Int64 × Int32 × Int32 × Int32 × Int32 × (Nat → Int32) × (Nat → Int32) × Int32 × Int32 × Int32 × (Nat → Int64) × (Nat → Int64) × (Nat → Int64) × (Nat → Int32) × (Nat → Int32) × (Nat → Int32) × (Nat → Int32) × (Nat → Int32) × Int32 × Int32 × Int32 × (Nat → Int32) × Int32))} (hf : fX10_event kIsStale piSegmentsNow enKind enX enY enLower enFromX enFromY enToX enToY tiTouching tiLyingAlong tiMeetingPairs tiAlongPairs tiSize evX evY evLower evBundle evCrossingOf evEventOf evLeftEvent evRightEvent evSize evCrossings evSegmentsNow grDegree grEdges g0Lx g0Ly g0Rx g0Ry g0Sz a0 a1 = some out) : vx_Met l yX10_event (xsWs yX10_event cX10_event 4 (some .long)) { frames := 7, cells := 2, slots := 12, locals := 153 } (xsP X (wK X kIsKept kIsStale hiLatest hiSize scBytes scTold scLength scFault scAt scNumber piSegmentsNow enKind enX enY enLower enFromX enFromY enToX enToY tiTouching tiLyingAlong tiMeetingPairs tiAlongPairs tiSize evX evY evLower evBundle evCrossingOf evEventOf evLeftEvent evRightEvent evSize evCrossings evSegmentsNow grDegree grEdges grFar grQueue grQueued huX huY huSize huBestX huBestY S Rw) [.ref (xsA X 0), .int a0, .int a1]) (xsXl X (fun r u => ∃ tt, out = .inl tt ∧ r = tt.1 ∧ u = wK X kIsKept tt.2.1 hiLatest hiSize scBytes scTold scLength scFault scAt scNumber tt.2.2.1 tt.2.2.2.1 tt.2.2.2.2.1 tt.2.2.2.2.2.1 tt.2.2.2.2.2.2.1 tt.2.2.2.2.2.2.2.1 tt.2.2.2.2.2.2.2.2.1 tt.2.2.2.2.2.2.2.2.2.1 tt.2.2.2.2.2.2.2.2.2.2.1 tt.2.2.2.2.2.2.2.2.2.2.2.1 tt.2.2.2.2.2.2.2.2.2.2.2.2.1 tt.2.2.2.2.2.2.2.2.2.2.2.2.2.1 tt.2.2.2.2.2.2.2.2.2.2.2.2.2.2.1 tt.2.2.2.2.2.2.2.2.2.2.2.2.2.2.2.1 tt.2.2.2.2.2.2.2.2.2.2.2.2.2.2.2.2.1 tt.2.2.2.2.2.2.2.2.2.2.2.2.2.2.2.2.2.1 tt.2.2.2.2.2.2.2.2.2.2.2.2.2.2.2.2.2.2.1 tt.2.2.2.2.2.2.2.2.2.2.2.2.2.2.2.2.2.2.2.1 tt.2.2.2.2.2.2.2.2.2.2.2.2.2.2.2.2.2.2.2.2.1 tt.2.2.2.2.2.2.2.2.2.2.2.2.2.2.2.2.2.2.2.2.2.1 tt.2.2.2.2.2.2.2.2.2.2.2.2.2.2.2.2.2.2.2.2.2.2.1 tt.2.2.2.2.2.2.2.2.2.2.2.2.2.2.2.2.2.2.2.2.2.2.2.1 tt.2.2.2.2.2.2.2.2.2.2.2.2.2.2.2.2.2.2.2.2.2.2.2.2.1 tt.2.2.2.2.2.2.2.2.2.2.2.2.2.2.2.2.2.2.2.2.2.2.2.2.2.1 tt.2.2.2.2.2.2.2.2.2.2.2.2.2.2.2.2.2.2.2.2.2.2.2.2.2.2.1 tt.2.2.2.2.2.2.2.2.2.2.2.2.2.2.2.2.2.2.2.2.2.2.2.2.2.2.2.1 tt.2.2.2.2.2.2.2.2.2.2.2.2.2.2.2.2.2.2.2.2.2.2.2.2.2.2.2.2 grFar grQueue grQueued huX huY huSize huBestX huBestY S Rw)) (xsXC X (fun n u => ∃ tt, out = .inr (n, tt) ∧ u = wK X kIsKept tt.1 hiLatest hiSize scBytes scTold scLength scFault scAt scNumber tt.2.1 tt.2.2.1 tt.2.2.2.1 tt.2.2.2.2.1 tt.2.2.2.2.2.1 tt.2.2.2.2.2.2.1 tt.2.2.2.2.2.2.2.1 tt.2.2.2.2.2.2.2.2.1 tt.2.2.2.2.2.2.2.2.2.1 tt.2.2.2.2.2.2.2.2.2.2.1 tt.2.2.2.2.2.2.2.2.2.2.2.1 tt.2.2.2.2.2.2.2.2.2.2.2.2.1 tt.2.2.2.2.2.2.2.2.2.2.2.2.2.1 tt.2.2.2.2.2.2.2.2.2.2.2.2.2.2.1 tt.2.2.2.2.2.2.2.2.2.2.2.2.2.2.2.1 tt.2.2.2.2.2.2.2.2.2.2.2.2.2.2.2.2.1 tt.2.2.2.2.2.2.2.2.2.2.2.2.2.2.2.2.2.1 tt.2.2.2.2.2.2.2.2.2.2.2.2.2.2.2.2.2.2.1 tt.2.2.2.2.2.2.2.2.2.2.2.2.2.2.2.2.2.2.2.1 tt.2.2.2.2.2.2.2.2.2.2.2.2.2.2.2.2.2.2.2.2.1 tt.2.2.2.2.2.2.2.2.2.2.2.2.2.2.2.2.2.2.2.2.2.1 tt.2.2.2.2.2.2.2.2.2.2.2.2.2.2.2.2.2.2.2.2.2.2.1 tt.2.2.2.2.2.2.2.2.2.2.2.2.2.2.2.2.2.2.2.2.2.2.2.1 tt.2.2.2.2.2.2.2.2.2.2.2.2.2.2.2.2.2.2.2.2.2.2.2.2.1 tt.2.2.2.2.2.2.2.2.2.2.2.2.2.2.2.2.2.2.2.2.2.2.2.2.2.1 tt.2.2.2.2.2.2.2.2.2.2.2.2.2.2.2.2.2.2.2.2.2.2.2.2.2.2.1 tt.2.2.2.2.2.2.2.2.2.2.2.2.2.2.2.2.2.2.2.2.2.2.2.2.2.2.2 grFar grQueue grQueued huX huY huSize huBestX huBestY S Rw)) 2 12 (xsF X) := by
  refine xs_xmet RX10 (by decide) rfl (Nat.le_of_ble_eq_true rfl) ?_
  intro p e s m below meth c ls H locs C hout hP hD hS hr hlk hl
  have hx := C.1
  have hb := C.2.1
  have hl : lv_has ls 4 [(0, .ref (xsA X 0)), (1, .int a0), (2, .int a1)] := hl
  obtain ⟨Qq, hQq⟩ : ∃ Qq, Qq = xsXl X (fun r u => ∃ tt, out = .inl tt ∧ r = tt.1 ∧ u = wK X kIsKept tt.2.1 hiLatest hiSize scBytes scTold scLength scFault scAt scNumber tt.2.2.1 tt.2.2.2.1 tt.2.2.2.2.1 tt.2.2.2.2.2.1 tt.2.2.2.2.2.2.1 tt.2.2.2.2.2.2.2.1 tt.2.2.2.2.2.2.2.2.1 tt.2.2.2.2.2.2.2.2.2.1 tt.2.2.2.2.2.2.2.2.2.2.1 tt.2.2.2.2.2.2.2.2.2.2.2.1 tt.2.2.2.2.2.2.2.2.2.2.2.2.1 tt.2.2.2.2.2.2.2.2.2.2.2.2.2.1 tt.2.2.2.2.2.2.2.2.2.2.2.2.2.2.1 tt.2.2.2.2.2.2.2.2.2.2.2.2.2.2.2.1 tt.2.2.2.2.2.2.2.2.2.2.2.2.2.2.2.2.1 tt.2.2.2.2.2.2.2.2.2.2.2.2.2.2.2.2.2.1 tt.2.2.2.2.2.2.2.2.2.2.2.2.2.2.2.2.2.2.1 tt.2.2.2.2.2.2.2.2.2.2.2.2.2.2.2.2.2.2.2.1 tt.2.2.2.2.2.2.2.2.2.2.2.2.2.2.2.2.2.2.2.2.1 tt.2.2.2.2.2.2.2.2.2.2.2.2.2.2.2.2.2.2.2.2.2.1 tt.2.2.2.2.2.2.2.2.2.2.2.2.2.2.2.2.2.2.2.2.2.2.1 tt.2.2.2.2.2.2.2.2.2.2.2.2.2.2.2.2.2.2.2.2.2.2.2.1 tt.2.2.2.2.2.2.2.2.2.2.2.2.2.2.2.2.2.2.2.2.2.2.2.2.1 tt.2.2.2.2.2.2.2.2.2.2.2.2.2.2.2.2.2.2.2.2.2.2.2.2.2.1 tt.2.2.2.2.2.2.2.2.2.2.2.2.2.2.2.2.2.2.2.2.2.2.2.2.2.2.1 tt.2.2.2.2.2.2.2.2.2.2.2.2.2.2.2.2.2.2.2.2.2.2.2.2.2.2.2.1 tt.2.2.2.2.2.2.2.2.2.2.2.2.2.2.2.2.2.2.2.2.2.2.2.2.2.2.2.2 grFar grQueue grQueued huX huY huSize huBestX huBestY S Rw) := ⟨_, rfl⟩
  rw [← hQq]
  obtain ⟨Xq, hXq⟩ : ∃ Xq, Xq = xsXC X (fun n u => ∃ tt, out = .inr (n, tt) ∧ u = wK X kIsKept tt.1 hiLatest hiSize scBytes scTold scLength scFault scAt scNumber tt.2.1 tt.2.2.1 tt.2.2.2.1 tt.2.2.2.2.1 tt.2.2.2.2.2.1 tt.2.2.2.2.2.2.1 tt.2.2.2.2.2.2.2.1 tt.2.2.2.2.2.2.2.2.1 tt.2.2.2.2.2.2.2.2.2.1 tt.2.2.2.2.2.2.2.2.2.2.1 tt.2.2.2.2.2.2.2.2.2.2.2.1 tt.2.2.2.2.2.2.2.2.2.2.2.2.1 tt.2.2.2.2.2.2.2.2.2.2.2.2.2.1 tt.2.2.2.2.2.2.2.2.2.2.2.2.2.2.1 tt.2.2.2.2.2.2.2.2.2.2.2.2.2.2.2.1 tt.2.2.2.2.2.2.2.2.2.2.2.2.2.2.2.2.1 tt.2.2.2.2.2.2.2.2.2.2.2.2.2.2.2.2.2.1 tt.2.2.2.2.2.2.2.2.2.2.2.2.2.2.2.2.2.2.1 tt.2.2.2.2.2.2.2.2.2.2.2.2.2.2.2.2.2.2.2.1 tt.2.2.2.2.2.2.2.2.2.2.2.2.2.2.2.2.2.2.2.2.1 tt.2.2.2.2.2.2.2.2.2.2.2.2.2.2.2.2.2.2.2.2.2.1 tt.2.2.2.2.2.2.2.2.2.2.2.2.2.2.2.2.2.2.2.2.2.2.1 tt.2.2.2.2.2.2.2.2.2.2.2.2.2.2.2.2.2.2.2.2.2.2.2.1 tt.2.2.2.2.2.2.2.2.2.2.2.2.2.2.2.2.2.2.2.2.2.2.2.2.1 tt.2.2.2.2.2.2.2.2.2.2.2.2.2.2.2.2.2.2.2.2.2.2.2.2.2.1 tt.2.2.2.2.2.2.2.2.2.2.2.2.2.2.2.2.2.2.2.2.2.2.2.2.2.2.1 tt.2.2.2.2.2.2.2.2.2.2.2.2.2.2.2.2.2.2.2.2.2.2.2.2.2.2.2 grFar grQueue grQueued huX huY huSize huBestX huBestY S Rw) := ⟨_, rfl⟩
  rw [← hXq]
  unfold fX10_event at hf
  refine lv_aload_n hx hb dX10_event_0 rfl (lv_at hl 0 rfl) ?_
  replace hf := xsBd_use hf
  obtain ⟨o1, h2, hf⟩ := hf
  refine xs_callr hS (xs_runV (As := []) C (mX10_drawn l hs_0 h2) w_535 w_537 w_2 w_105 w_538 hd_X10_drawn ⟨rfl, rfl, Nat.le_of_ble_eq_true rfl, Nat.le_of_ble_eq_true rfl, Nat.le_of_ble_eq_true rfl, Nat.le_of_ble_eq_true rfl⟩ hP hD hS lk_X10 rfl hl.1 rfl (Nat.le_of_ble_eq_true rfl) dX10_event_1) (fun H locs hP hD hS => ?_)
  refine xg_X10_129 C hP dX10_event_4 ?_
  refine lv_astore_n (lv' := [(3, .ref (xsA X 11)), (0, .ref (xsA X 0)), (1, .int a0), (2, .int a1)]) hx hb dX10_event_7 rfl hl (by decide) rfl (fun ls hl => ?_)
  refine lv_iload_n hx hb dX10_event_8 rfl (lv_at hl 2 rfl) ?_
  refine lv_aload_n hx hb dX10_event_9 rfl (lv_at hl 0 rfl) ?_
  refine xg_X10_158 C hP dX10_event_10 ?_
  replace hf := xsBd_use hf
  obtain ⟨o3, h4, hf⟩ := hf
  refine xs_xcallv hS (xs_xrunS (As := [.int a0, .int o1.2.2.2.2.2.2.2.2.2.2.2.2.2.2.2.2.2.2.2.2.2.2.2.1]) C (mX10_checkPlace l hst  h4) w_1022 w_1023 w_105 w_1024 hd_X10_checkPlace ⟨rfl, rfl, Nat.le_of_ble_eq_true rfl, Nat.le_of_ble_eq_true rfl, Nat.le_of_ble_eq_true rfl, Nat.le_of_ble_eq_true rfl⟩ hP hD hS hl.1 rfl (Nat.le_of_ble_eq_true rfl) dX10_event_13) (fun n u q H locs hpx hP hD hS hq => ?_) (fun u H locs hp hP hD hS => ?_)
  · obtain ⟨tx, e1, e2⟩ := hpx
    subst e1
    subst e2
    have ho := Option.some.inj hf
    subst ho
    rw [hXq]
    exact xs_xpass hlk hout ⟨_, rfl, rfl⟩ hP hD hS hq (Nat.le_of_ble_eq_true rfl) (Nat.le_of_ble_eq_true rfl)
  obtain ⟨v5, e1, e3⟩ := hp
  subst e1
  subst e3
  replace hf := xsTh_use hf
  refine W.widen (k := 1) (n := 6) (Nat.le_refl _) (Nat.le_refl _) ?_
  refine lv_iload_n hx hb dX10_event_16 rfl (lv_at hl 3 rfl) ?_
  refine lv_bipush (v := (9 : Int32)) hx hb dX10_event_17 (by decide) ?_
  replace hf := xsBd_use hf
  obtain ⟨o6, h7, hf⟩ := hf
  refine xs_xcallv hS (xs_xrunS (As := [.int a1, .int (9 : Int32)]) C (mX10_checkQuestion l hst  h7) w_1142 w_1143 w_105 w_1144 hd_X10_checkQuestion ⟨rfl, rfl, Nat.le_of_ble_eq_true rfl, Nat.le_of_ble_eq_true rfl, Nat.le_of_ble_eq_true rfl, Nat.le_of_ble_eq_true rfl⟩ hP hD hS hl.1 rfl (Nat.le_of_ble_eq_true rfl) dX10_event_19) (fun n u q H locs hpx hP hD hS hq => ?_) (fun u H locs hp hP hD hS => ?_)
  · obtain ⟨tx, e1, e2⟩ := hpx
    subst e1
    subst e2
    have ho := Option.some.inj hf
    subst ho
    rw [hXq]
    exact xs_xpass hlk hout ⟨_, rfl, rfl⟩ hP hD hS hq (Nat.le_of_ble_eq_true rfl) (Nat.le_of_ble_eq_true rfl)
  obtain ⟨v8, e1, e3⟩ := hp
  subst e1
  subst e3
  replace hf := xsTh_use hf
  refine W.widen (k := 2) (n := 12) (Nat.le_refl _) (Nat.le_refl _) ?_
  refine lv_iload_n hx hb dX10_event_22 rfl (lv_at hl 3 rfl) ?_
  by_cases c24_0 : a1 = 4
  · replace hf := xsBr_t c24_0 hf
    refine lv_tableIn (tgt := 60) hx hb dX10_event_23 (by rw [c24_0]; decide) (by rw [c24_0]; decide) (by rw [c24_0]; rfl) (by decide) ?_
    refine lv_aload_n hx hb dX10_event_60 rfl (lv_at hl 0 rfl) ?_
    refine lv_iload_n hx hb dX10_event_61 rfl (lv_at hl 2 rfl) ?_
    replace hf := xsBd_use hf
    obtain ⟨o9, h10, hf⟩ := hf
    refine xs_calli hS (xs_runV (As := [.int a0]) C (mX1_leftsIn l  h10) w_1182 w_739 w_740 w_112 w_741 hd_X1_leftsIn ⟨rfl, rfl, Nat.le_of_ble_eq_true rfl, Nat.le_of_ble_eq_true rfl, Nat.le_of_ble_eq_true rfl, Nat.le_of_ble_eq_true rfl⟩ hP hD hS lk_X1 rfl hl.1 rfl (Nat.le_of_ble_eq_true rfl) dX10_event_62) (fun H locs hP hD hS => ?_)
    refine lv_i2l hx hb dX10_event_65 rfl ?_
    have ho := Option.some.inj hf
    subst ho
    rw [hQq]
    exact xs_xlret C hr hlk ⟨_, rfl, rfl, rfl⟩ hP hD hS (Nat.le_of_ble_eq_true rfl) (Nat.le_of_ble_eq_true rfl) dX10_event_66
  replace hf := xsBr_f c24_0 hf
  by_cases c24_1 : a1 = 5
  · replace hf := xsBr_t c24_1 hf
    refine lv_tableIn (tgt := 67) hx hb dX10_event_23 (by rw [c24_1]; decide) (by rw [c24_1]; decide) (by rw [c24_1]; rfl) (by decide) ?_
    refine lv_aload_n hx hb dX10_event_67 rfl (lv_at hl 0 rfl) ?_
    refine lv_iload_n hx hb dX10_event_68 rfl (lv_at hl 2 rfl) ?_
    replace hf := xsBd_use hf
    obtain ⟨o11, h12, hf⟩ := hf
    refine xs_calli hS (xs_runV (As := [.int a0]) C (mX1_rightsIn l  h12) w_1183 w_747 w_748 w_112 w_749 hd_X1_rightsIn ⟨rfl, rfl, Nat.le_of_ble_eq_true rfl, Nat.le_of_ble_eq_true rfl, Nat.le_of_ble_eq_true rfl, Nat.le_of_ble_eq_true rfl⟩ hP hD hS lk_X1 rfl hl.1 rfl (Nat.le_of_ble_eq_true rfl) dX10_event_69) (fun H locs hP hD hS => ?_)
    refine lv_i2l hx hb dX10_event_72 rfl ?_
    have ho := Option.some.inj hf
    subst ho
    rw [hQq]
    exact xs_xlret C hr hlk ⟨_, rfl, rfl, rfl⟩ hP hD hS (Nat.le_of_ble_eq_true rfl) (Nat.le_of_ble_eq_true rfl) dX10_event_73
  replace hf := xsBr_f c24_1 hf
  by_cases c24_2 : a1 = 6
  · replace hf := xsBr_t c24_2 hf
    refine lv_tableIn (tgt := 74) hx hb dX10_event_23 (by rw [c24_2]; decide) (by rw [c24_2]; decide) (by rw [c24_2]; rfl) (by decide) ?_
    refine lv_aload_n hx hb dX10_event_74 rfl (lv_at hl 0 rfl) ?_
    refine lv_iload_n hx hb dX10_event_75 rfl (lv_at hl 2 rfl) ?_
    replace hf := xsBd_use hf
    obtain ⟨o13, h14, hf⟩ := hf
    refine xs_calli hS (xs_runV (As := [.int a0]) C (mX1_insidesIn l  h14) w_1184 w_735 w_736 w_112 w_737 hd_X1_insidesIn ⟨rfl, rfl, Nat.le_of_ble_eq_true rfl, Nat.le_of_ble_eq_true rfl, Nat.le_of_ble_eq_true rfl, Nat.le_of_ble_eq_true rfl⟩ hP hD hS lk_X1 rfl hl.1 rfl (Nat.le_of_ble_eq_true rfl) dX10_event_76) (fun H locs hP hD hS => ?_)
    refine lv_i2l hx hb dX10_event_79 rfl ?_
    have ho := Option.some.inj hf
    subst ho
    rw [hQq]
    exact xs_xlret C hr hlk ⟨_, rfl, rfl, rfl⟩ hP hD hS (Nat.le_of_ble_eq_true rfl) (Nat.le_of_ble_eq_true rfl) dX10_event_80
  replace hf := xsBr_f c24_2 hf
  by_cases c24_3 : a1 = 7
  · replace hf := xsBr_t c24_3 hf
    refine lv_tableIn (tgt := 81) hx hb dX10_event_23 (by rw [c24_3]; decide) (by rw [c24_3]; decide) (by rw [c24_3]; rfl) (by decide) ?_
    refine lv_aload_n hx hb dX10_event_81 rfl (lv_at hl 0 rfl) ?_
    refine xg_X10_287 C hP dX10_event_82 ?_
    refine lv_iload_n hx hb dX10_event_85 rfl (lv_at hl 2 rfl) ?_
    replace hf := xsCk_use hf
    obtain ⟨h15, hf⟩ := hf
    refine xl_evCrossingOf C hP h15 dX10_event_86 ?_
    refine lv_i2l hx hb dX10_event_87 rfl ?_
    have ho := Option.some.inj hf
    subst ho
    rw [hQq]
    exact xs_xlret C hr hlk ⟨_, rfl, rfl, rfl⟩ hP hD hS (Nat.le_of_ble_eq_true rfl) (Nat.le_of_ble_eq_true rfl) dX10_event_88
  replace hf := xsBr_f c24_3 hf
  by_cases c24_4 : a1 = 8
  · replace hf := xsBr_t c24_4 hf
    refine lv_tableIn (tgt := 89) hx hb dX10_event_23 (by rw [c24_4]; decide) (by rw [c24_4]; decide) (by rw [c24_4]; rfl) (by decide) ?_
    refine lv_aload_n hx hb dX10_event_89 rfl (lv_at hl 1 rfl) ?_
    refine xg_X10_39 C hP dX10_event_90 ?_
    refine lv_iload_n hx hb dX10_event_93 rfl (lv_at hl 2 rfl) ?_
    replace hf := xsBd_use hf
    obtain ⟨o16, h17, hf⟩ := hf
    refine xs_calli hS (xs_runV (As := [.int a0]) C (mX5_spread l  h17) w_1185 w_731 w_732 w_109 w_733 hd_X5_spread ⟨rfl, rfl, Nat.le_of_ble_eq_true rfl, Nat.le_of_ble_eq_true rfl, Nat.le_of_ble_eq_true rfl, Nat.le_of_ble_eq_true rfl⟩ hP hD hS lk_X5 rfl hl.1 rfl (Nat.le_of_ble_eq_true rfl) dX10_event_94) (fun H locs hP hD hS => ?_)
    refine lv_i2l hx hb dX10_event_97 rfl ?_
    have ho := Option.some.inj hf
    subst ho
    rw [hQq]
    exact xs_xlret C hr hlk ⟨_, rfl, rfl, rfl⟩ hP hD hS (Nat.le_of_ble_eq_true rfl) (Nat.le_of_ble_eq_true rfl) dX10_event_98
  replace hf := xsBr_f c24_4 hf
  by_cases c24_5 : a1 = 9
  · replace hf := xsBr_t c24_5 hf
    refine lv_tableIn (tgt := 99) hx hb dX10_event_23 (by rw [c24_5]; decide) (by rw [c24_5]; decide) (by rw [c24_5]; rfl) (by decide) ?_
    refine lv_aload_n hx hb dX10_event_99 rfl (lv_at hl 1 rfl) ?_
    refine xg_X10_39 C hP dX10_event_100 ?_
    refine xg_X10_293 C hP dX10_event_103 ?_
    refine xg_X10_297 C hP dX10_event_106 ?_
    refine lv_iload_n hx hb dX10_event_109 rfl (lv_at hl 2 rfl) ?_
    replace hf := xsCk_use hf
    obtain ⟨h18, hf⟩ := hf
    refine xl_grDegree C hP h18 dX10_event_110 ?_
    refine lv_i2l hx hb dX10_event_111 rfl ?_
    have ho := Option.some.inj hf
    subst ho
    rw [hQq]
    exact xs_xlret C hr hlk ⟨_, rfl, rfl, rfl⟩ hP hD hS (Nat.le_of_ble_eq_true rfl) (Nat.le_of_ble_eq_true rfl) dX10_event_112
  replace hf := xsBr_f c24_5 hf
  refine lv_tableOut (tgt := 113) hx hb dX10_event_23 (xs_swo [4, 5, 6, 7, 8, 9] (by decide) ⟨c24_0, c24_1, c24_2, c24_3, c24_4, c24_5, trivial⟩) (by decide) ?_
  refine lv_aload_n hx hb dX10_event_113 rfl (lv_at hl 0 rfl) ?_
  refine xg_X10_271 C hP dX10_event_114 ?_
  refine lv_iload_n hx hb dX10_event_117 rfl (lv_at hl 2 rfl) ?_
  replace hf := xsCk_use hf
  obtain ⟨h19, hf⟩ := hf
  refine xl_evX C hP h19 dX10_event_118 ?_
  refine lv_aload_n hx hb dX10_event_119 rfl (lv_at hl 0 rfl) ?_
  refine xg_X10_274 C hP dX10_event_120 ?_
  refine lv_iload_n hx hb dX10_event_123 rfl (lv_at hl 2 rfl) ?_
  replace hf := xsCk_use hf
  obtain ⟨h20, hf⟩ := hf
  refine xl_evY C hP h20 dX10_event_124 ?_
  refine lv_aload_n hx hb dX10_event_125 rfl (lv_at hl 0 rfl) ?_
  refine xg_X10_276 C hP dX10_event_126 ?_
  refine lv_iload_n hx hb dX10_event_129 rfl (lv_at hl 2 rfl) ?_
  replace hf := xsCk_use hf
  obtain ⟨h21, hf⟩ := hf
  refine xl_evLower C hP h21 dX10_event_130 ?_
  refine lv_iload_n hx hb dX10_event_131 rfl (lv_at hl 3 rfl) ?_
  replace hf := xsBd_use hf
  obtain ⟨o22, h23, hf⟩ := hf
  refine xs_calll hS (xs_runS (As := [.long (o1.2.2.2.2.2.2.2.2.2.2.2.2.2.2.2.1 a0.toNatClampNeg), .long (o1.2.2.2.2.2.2.2.2.2.2.2.2.2.2.2.2.1 a0.toNatClampNeg), .long (o1.2.2.2.2.2.2.2.2.2.2.2.2.2.2.2.2.2.1 a0.toNatClampNeg), .int a1]) C (mX10_partOfPoint l  h23) w_1147 w_1148 w_105 w_1149 hd_X10_partOfPoint ⟨rfl, rfl, Nat.le_of_ble_eq_true rfl, Nat.le_of_ble_eq_true rfl, Nat.le_of_ble_eq_true rfl, Nat.le_of_ble_eq_true rfl⟩ hP hD hS hl.1 rfl (Nat.le_of_ble_eq_true rfl) dX10_event_132) (fun H locs hP hD hS => ?_)
  have ho := Option.some.inj hf
  subst ho
  rw [hQq]
  exact xs_xlret C hr hlk ⟨_, rfl, rfl, rfl⟩ hP hD hS (Nat.le_of_ble_eq_true rfl) (Nat.le_of_ble_eq_true rfl) dX10_event_135
set_option maxRecDepth 100000 in
set_option maxHeartbeats 8000000 in
theorem mX10_status (l : Launch) (hst : l.stackTraces = false) {X : xsX} {kIsKept kIsStale hiLatest hiSize scLength scFault scAt scNumber piSegmentsNow enKind enFromX enFromY enToX enToY tiMeetingPairs tiAlongPairs tiSize evSize evCrossings evSegmentsNow grEdges grQueued huSize huBestX huBestY : Int32} {scBytes scTold tiTouching tiLyingAlong evBundle evCrossingOf evEventOf evLeftEvent evRightEvent grDegree grFar grQueue huX huY : Nat → Int32} {enX enY enLower : Int64} {evX evY evLower : Nat → Int64} {S : Nat → xsV} {Rw : va_W} {g0Lx g0Ly g0Rx g0Ry g0Ti : Nat → Int32} {g0Sz : Int32} (hs_0 : S 0 = (g0Lx, g0Ly, g0Rx, g0Ry, g0Ti, g0Sz)) {a0 : Int32} {a1 : Int32} {out : (Int32 × Int32 × Int32 × Int32 × Int64 × Int64 × Int64 × Int32 × Int32 × Int32 × Int32 × (Nat → Int32) × (Nat → Int32) × Int32 × Int32 × Int32 × (Nat → Int64) × (Nat → Int64) × (Nat → Int64) × (Nat → Int32) × (Nat → Int32) × (Nat → Int32) × (Nat → Int32) × (Nat → Int32) × Int32 × Int32 × Int32 × (Nat → Int32) × Int32) ⊕ (Nat × (Int32 × Int32 × Int32 × Int64 × Int64 × Int64 × Int32 × Int32 × Int32 × Int32 × (Nat → Int32) × (Nat → Int32) × Int32 × Int32 × Int32 × (Nat → Int64) × (Nat → Int64) × (Nat → Int64) × (Nat → Int32) × (Nat → Int32) × (Nat → Int32) × (Nat → Int32) × (Nat → Int32) × Int32 × Int32 × Int32 × (Nat → Int32) × Int32))} (hf : fX10_status kIsStale piSegmentsNow enKind enX enY enLower enFromX enFromY enToX enToY tiTouching tiLyingAlong tiMeetingPairs tiAlongPairs tiSize evX evY evLower evBundle evCrossingOf evEventOf evLeftEvent evRightEvent evSize evCrossings evSegmentsNow grDegree grEdges g0Lx g0Ly g0Rx g0Ry g0Sz a0 a1 = some out) : vx_Met l yX10_status (xsWs yX10_status cX10_status 6 (some .int)) { frames := 7, cells := 1, slots := 6, locals := 153 } (xsP X (wK X kIsKept kIsStale hiLatest hiSize scBytes scTold scLength scFault scAt scNumber piSegmentsNow enKind enX enY enLower enFromX enFromY enToX enToY tiTouching tiLyingAlong tiMeetingPairs tiAlongPairs tiSize evX evY evLower evBundle evCrossingOf evEventOf evLeftEvent evRightEvent evSize evCrossings evSegmentsNow grDegree grEdges grFar grQueue grQueued huX huY huSize huBestX huBestY S Rw) [.ref (xsA X 0), .int a0, .int a1]) (xsXi X (fun r u => ∃ tt, out = .inl tt ∧ r = tt.1 ∧ u = wK X kIsKept tt.2.1 hiLatest hiSize scBytes scTold scLength scFault scAt scNumber tt.2.2.1 tt.2.2.2.1 tt.2.2.2.2.1 tt.2.2.2.2.2.1 tt.2.2.2.2.2.2.1 tt.2.2.2.2.2.2.2.1 tt.2.2.2.2.2.2.2.2.1 tt.2.2.2.2.2.2.2.2.2.1 tt.2.2.2.2.2.2.2.2.2.2.1 tt.2.2.2.2.2.2.2.2.2.2.2.1 tt.2.2.2.2.2.2.2.2.2.2.2.2.1 tt.2.2.2.2.2.2.2.2.2.2.2.2.2.1 tt.2.2.2.2.2.2.2.2.2.2.2.2.2.2.1 tt.2.2.2.2.2.2.2.2.2.2.2.2.2.2.2.1 tt.2.2.2.2.2.2.2.2.2.2.2.2.2.2.2.2.1 tt.2.2.2.2.2.2.2.2.2.2.2.2.2.2.2.2.2.1 tt.2.2.2.2.2.2.2.2.2.2.2.2.2.2.2.2.2.2.1 tt.2.2.2.2.2.2.2.2.2.2.2.2.2.2.2.2.2.2.2.1 tt.2.2.2.2.2.2.2.2.2.2.2.2.2.2.2.2.2.2.2.2.1 tt.2.2.2.2.2.2.2.2.2.2.2.2.2.2.2.2.2.2.2.2.2.1 tt.2.2.2.2.2.2.2.2.2.2.2.2.2.2.2.2.2.2.2.2.2.2.1 tt.2.2.2.2.2.2.2.2.2.2.2.2.2.2.2.2.2.2.2.2.2.2.2.1 tt.2.2.2.2.2.2.2.2.2.2.2.2.2.2.2.2.2.2.2.2.2.2.2.2.1 tt.2.2.2.2.2.2.2.2.2.2.2.2.2.2.2.2.2.2.2.2.2.2.2.2.2.1 tt.2.2.2.2.2.2.2.2.2.2.2.2.2.2.2.2.2.2.2.2.2.2.2.2.2.2.1 tt.2.2.2.2.2.2.2.2.2.2.2.2.2.2.2.2.2.2.2.2.2.2.2.2.2.2.2.1 tt.2.2.2.2.2.2.2.2.2.2.2.2.2.2.2.2.2.2.2.2.2.2.2.2.2.2.2.2 grFar grQueue grQueued huX huY huSize huBestX huBestY S Rw)) (xsXC X (fun n u => ∃ tt, out = .inr (n, tt) ∧ u = wK X kIsKept tt.1 hiLatest hiSize scBytes scTold scLength scFault scAt scNumber tt.2.1 tt.2.2.1 tt.2.2.2.1 tt.2.2.2.2.1 tt.2.2.2.2.2.1 tt.2.2.2.2.2.2.1 tt.2.2.2.2.2.2.2.1 tt.2.2.2.2.2.2.2.2.1 tt.2.2.2.2.2.2.2.2.2.1 tt.2.2.2.2.2.2.2.2.2.2.1 tt.2.2.2.2.2.2.2.2.2.2.2.1 tt.2.2.2.2.2.2.2.2.2.2.2.2.1 tt.2.2.2.2.2.2.2.2.2.2.2.2.2.1 tt.2.2.2.2.2.2.2.2.2.2.2.2.2.2.1 tt.2.2.2.2.2.2.2.2.2.2.2.2.2.2.2.1 tt.2.2.2.2.2.2.2.2.2.2.2.2.2.2.2.2.1 tt.2.2.2.2.2.2.2.2.2.2.2.2.2.2.2.2.2.1 tt.2.2.2.2.2.2.2.2.2.2.2.2.2.2.2.2.2.2.1 tt.2.2.2.2.2.2.2.2.2.2.2.2.2.2.2.2.2.2.2.1 tt.2.2.2.2.2.2.2.2.2.2.2.2.2.2.2.2.2.2.2.2.1 tt.2.2.2.2.2.2.2.2.2.2.2.2.2.2.2.2.2.2.2.2.2.1 tt.2.2.2.2.2.2.2.2.2.2.2.2.2.2.2.2.2.2.2.2.2.2.1 tt.2.2.2.2.2.2.2.2.2.2.2.2.2.2.2.2.2.2.2.2.2.2.2.1 tt.2.2.2.2.2.2.2.2.2.2.2.2.2.2.2.2.2.2.2.2.2.2.2.2.1 tt.2.2.2.2.2.2.2.2.2.2.2.2.2.2.2.2.2.2.2.2.2.2.2.2.2.1 tt.2.2.2.2.2.2.2.2.2.2.2.2.2.2.2.2.2.2.2.2.2.2.2.2.2.2.1 tt.2.2.2.2.2.2.2.2.2.2.2.2.2.2.2.2.2.2.2.2.2.2.2.2.2.2.2 grFar grQueue grQueued huX huY huSize huBestX huBestY S Rw)) 1 6 (xsF X) := by
  refine xs_xmet RX10 (by decide) rfl (Nat.le_of_ble_eq_true rfl) ?_
  intro p e s m below meth c ls H locs C hout hP hD hS hr hlk hl
  have hx := C.1
  have hb := C.2.1
  have hl : lv_has ls 6 [(0, .ref (xsA X 0)), (1, .int a0), (2, .int a1)] := hl
  obtain ⟨Qq, hQq⟩ : ∃ Qq, Qq = xsXi X (fun r u => ∃ tt, out = .inl tt ∧ r = tt.1 ∧ u = wK X kIsKept tt.2.1 hiLatest hiSize scBytes scTold scLength scFault scAt scNumber tt.2.2.1 tt.2.2.2.1 tt.2.2.2.2.1 tt.2.2.2.2.2.1 tt.2.2.2.2.2.2.1 tt.2.2.2.2.2.2.2.1 tt.2.2.2.2.2.2.2.2.1 tt.2.2.2.2.2.2.2.2.2.1 tt.2.2.2.2.2.2.2.2.2.2.1 tt.2.2.2.2.2.2.2.2.2.2.2.1 tt.2.2.2.2.2.2.2.2.2.2.2.2.1 tt.2.2.2.2.2.2.2.2.2.2.2.2.2.1 tt.2.2.2.2.2.2.2.2.2.2.2.2.2.2.1 tt.2.2.2.2.2.2.2.2.2.2.2.2.2.2.2.1 tt.2.2.2.2.2.2.2.2.2.2.2.2.2.2.2.2.1 tt.2.2.2.2.2.2.2.2.2.2.2.2.2.2.2.2.2.1 tt.2.2.2.2.2.2.2.2.2.2.2.2.2.2.2.2.2.2.1 tt.2.2.2.2.2.2.2.2.2.2.2.2.2.2.2.2.2.2.2.1 tt.2.2.2.2.2.2.2.2.2.2.2.2.2.2.2.2.2.2.2.2.1 tt.2.2.2.2.2.2.2.2.2.2.2.2.2.2.2.2.2.2.2.2.2.1 tt.2.2.2.2.2.2.2.2.2.2.2.2.2.2.2.2.2.2.2.2.2.2.1 tt.2.2.2.2.2.2.2.2.2.2.2.2.2.2.2.2.2.2.2.2.2.2.2.1 tt.2.2.2.2.2.2.2.2.2.2.2.2.2.2.2.2.2.2.2.2.2.2.2.2.1 tt.2.2.2.2.2.2.2.2.2.2.2.2.2.2.2.2.2.2.2.2.2.2.2.2.2.1 tt.2.2.2.2.2.2.2.2.2.2.2.2.2.2.2.2.2.2.2.2.2.2.2.2.2.2.1 tt.2.2.2.2.2.2.2.2.2.2.2.2.2.2.2.2.2.2.2.2.2.2.2.2.2.2.2.1 tt.2.2.2.2.2.2.2.2.2.2.2.2.2.2.2.2.2.2.2.2.2.2.2.2.2.2.2.2 grFar grQueue grQueued huX huY huSize huBestX huBestY S Rw) := ⟨_, rfl⟩
  rw [← hQq]
  obtain ⟨Xq, hXq⟩ : ∃ Xq, Xq = xsXC X (fun n u => ∃ tt, out = .inr (n, tt) ∧ u = wK X kIsKept tt.1 hiLatest hiSize scBytes scTold scLength scFault scAt scNumber tt.2.1 tt.2.2.1 tt.2.2.2.1 tt.2.2.2.2.1 tt.2.2.2.2.2.1 tt.2.2.2.2.2.2.1 tt.2.2.2.2.2.2.2.1 tt.2.2.2.2.2.2.2.2.1 tt.2.2.2.2.2.2.2.2.2.1 tt.2.2.2.2.2.2.2.2.2.2.1 tt.2.2.2.2.2.2.2.2.2.2.2.1 tt.2.2.2.2.2.2.2.2.2.2.2.2.1 tt.2.2.2.2.2.2.2.2.2.2.2.2.2.1 tt.2.2.2.2.2.2.2.2.2.2.2.2.2.2.1 tt.2.2.2.2.2.2.2.2.2.2.2.2.2.2.2.1 tt.2.2.2.2.2.2.2.2.2.2.2.2.2.2.2.2.1 tt.2.2.2.2.2.2.2.2.2.2.2.2.2.2.2.2.2.1 tt.2.2.2.2.2.2.2.2.2.2.2.2.2.2.2.2.2.2.1 tt.2.2.2.2.2.2.2.2.2.2.2.2.2.2.2.2.2.2.2.1 tt.2.2.2.2.2.2.2.2.2.2.2.2.2.2.2.2.2.2.2.2.1 tt.2.2.2.2.2.2.2.2.2.2.2.2.2.2.2.2.2.2.2.2.2.1 tt.2.2.2.2.2.2.2.2.2.2.2.2.2.2.2.2.2.2.2.2.2.2.1 tt.2.2.2.2.2.2.2.2.2.2.2.2.2.2.2.2.2.2.2.2.2.2.2.1 tt.2.2.2.2.2.2.2.2.2.2.2.2.2.2.2.2.2.2.2.2.2.2.2.2.1 tt.2.2.2.2.2.2.2.2.2.2.2.2.2.2.2.2.2.2.2.2.2.2.2.2.2.1 tt.2.2.2.2.2.2.2.2.2.2.2.2.2.2.2.2.2.2.2.2.2.2.2.2.2.2.1 tt.2.2.2.2.2.2.2.2.2.2.2.2.2.2.2.2.2.2.2.2.2.2.2.2.2.2.2 grFar grQueue grQueued huX huY huSize huBestX huBestY S Rw) := ⟨_, rfl⟩
  rw [← hXq]
  unfold fX10_status at hf
  refine lv_aload_n hx hb dX10_status_0 rfl (lv_at hl 0 rfl) ?_
  replace hf := xsBd_use hf
  obtain ⟨o1, h2, hf⟩ := hf
  refine xs_callr hS (xs_runV (As := []) C (mX10_drawn l hs_0 h2) w_535 w_537 w_2 w_105 w_538 hd_X10_drawn ⟨rfl, rfl, Nat.le_of_ble_eq_true rfl, Nat.le_of_ble_eq_true rfl, Nat.le_of_ble_eq_true rfl, Nat.le_of_ble_eq_true rfl⟩ hP hD hS lk_X10 rfl hl.1 rfl (Nat.le_of_ble_eq_true rfl) dX10_status_1) (fun H locs hP hD hS => ?_)
  refine xg_X10_129 C hP dX10_status_4 ?_
  refine lv_astore_n (lv' := [(3, .ref (xsA X 11)), (0, .ref (xsA X 0)), (1, .int a0), (2, .int a1)]) hx hb dX10_status_7 rfl hl (by decide) rfl (fun ls hl => ?_)
  refine lv_iload_n hx hb dX10_status_8 rfl (lv_at hl 2 rfl) ?_
  refine lv_aload_n hx hb dX10_status_9 rfl (lv_at hl 0 rfl) ?_
  refine xg_X10_158 C hP dX10_status_10 ?_
  replace hf := xsBd_use hf
  obtain ⟨o3, h4, hf⟩ := hf
  refine xs_xcallv hS (xs_xrunS (As := [.int a0, .int o1.2.2.2.2.2.2.2.2.2.2.2.2.2.2.2.2.2.2.2.2.2.2.2.1]) C (mX10_checkPlace l hst  h4) w_1022 w_1023 w_105 w_1024 hd_X10_checkPlace ⟨rfl, rfl, Nat.le_of_ble_eq_true rfl, Nat.le_of_ble_eq_true rfl, Nat.le_of_ble_eq_true rfl, Nat.le_of_ble_eq_true rfl⟩ hP hD hS hl.1 rfl (Nat.le_of_ble_eq_true rfl) dX10_status_13) (fun n u q H locs hpx hP hD hS hq => ?_) (fun u H locs hp hP hD hS => ?_)
  · obtain ⟨tx, e1, e2⟩ := hpx
    subst e1
    subst e2
    have ho := Option.some.inj hf
    subst ho
    rw [hXq]
    exact xs_xpass hlk hout ⟨_, rfl, rfl⟩ hP hD hS hq (Nat.le_of_ble_eq_true rfl) (Nat.le_of_ble_eq_true rfl)
  obtain ⟨v5, e1, e3⟩ := hp
  subst e1
  subst e3
  replace hf := xsTh_use hf
  refine W.widen (k := 1) (n := 6) (Nat.le_refl _) (Nat.le_refl _) ?_
  refine lv_aload_n hx hb dX10_status_16 rfl (lv_at hl 0 rfl) ?_
  refine lv_iload_n hx hb dX10_status_17 rfl (lv_at hl 2 rfl) ?_
  replace hf := xsBd_use hf
  obtain ⟨o6, h7, hf⟩ := hf
  refine xs_calli hS (xs_runV (As := [.int a0]) C (mX1_aliveBehind l  h7) w_1193 w_634 w_635 w_112 w_636 hd_X1_aliveBehind ⟨rfl, rfl, Nat.le_of_ble_eq_true rfl, Nat.le_of_ble_eq_true rfl, Nat.le_of_ble_eq_true rfl, Nat.le_of_ble_eq_true rfl⟩ hP hD hS lk_X1 rfl hl.1 rfl (Nat.le_of_ble_eq_true rfl) dX10_status_18) (fun H locs hP hD hS => ?_)
  refine lv_istore (lv' := [(4, .int o6), (3, .ref (xsA X 11)), (0, .ref (xsA X 0)), (1, .int a0), (2, .int a1)]) hx hb dX10_status_21 hl (by decide) rfl (fun ls hl => ?_)
  refine lv_iload_n hx hb dX10_status_23 rfl (lv_at hl 4 rfl) ?_
  refine lv_iconst (v := (-1 : Int32)) hx hb dX10_status_24 (by decide) ?_
  refine lv_icmp_ne (tgt := 34) hx hb dX10_status_25 (by decide) (fun c21 => ?_) (fun c21 => ?_)
  · replace hf := xsBr_f c21 hf
    refine lv_iconst (v := (0 : Int32)) hx hb dX10_status_34 (by decide) ?_
    refine lv_istore (lv' := [(5, .int (0 : Int32)), (4, .int o6), (3, .ref (xsA X 11)), (0, .ref (xsA X 0)), (1, .int a0), (2, .int a1)]) hx hb dX10_status_35 hl (by decide) rfl (fun ls hl => ?_)
    have K9 : ∀ (hf : fX10_status_J83 o1 = some out) (H : Heap) (locs : List Loc) (ls : Array Slot), va_P (xsD X) vwCl (wK X kIsKept o1.1 hiLatest hiSize scBytes scTold scLength scFault scAt scNumber o1.2.1 o1.2.2.1 o1.2.2.2.1 o1.2.2.2.2.1 o1.2.2.2.2.2.1 o1.2.2.2.2.2.2.1 o1.2.2.2.2.2.2.2.1 o1.2.2.2.2.2.2.2.2.1 o1.2.2.2.2.2.2.2.2.2.1 o1.2.2.2.2.2.2.2.2.2.2.1 o1.2.2.2.2.2.2.2.2.2.2.2.1 o1.2.2.2.2.2.2.2.2.2.2.2.2.1 o1.2.2.2.2.2.2.2.2.2.2.2.2.2.1 o1.2.2.2.2.2.2.2.2.2.2.2.2.2.2.1 o1.2.2.2.2.2.2.2.2.2.2.2.2.2.2.2.1 o1.2.2.2.2.2.2.2.2.2.2.2.2.2.2.2.2.1 o1.2.2.2.2.2.2.2.2.2.2.2.2.2.2.2.2.2.1 o1.2.2.2.2.2.2.2.2.2.2.2.2.2.2.2.2.2.2.1 o1.2.2.2.2.2.2.2.2.2.2.2.2.2.2.2.2.2.2.2.1 o1.2.2.2.2.2.2.2.2.2.2.2.2.2.2.2.2.2.2.2.2.1 o1.2.2.2.2.2.2.2.2.2.2.2.2.2.2.2.2.2.2.2.2.2.1 o1.2.2.2.2.2.2.2.2.2.2.2.2.2.2.2.2.2.2.2.2.2.2.1 o1.2.2.2.2.2.2.2.2.2.2.2.2.2.2.2.2.2.2.2.2.2.2.2.1 o1.2.2.2.2.2.2.2.2.2.2.2.2.2.2.2.2.2.2.2.2.2.2.2.2.1 o1.2.2.2.2.2.2.2.2.2.2.2.2.2.2.2.2.2.2.2.2.2.2.2.2.2.1 o1.2.2.2.2.2.2.2.2.2.2.2.2.2.2.2.2.2.2.2.2.2.2.2.2.2.2.1 o1.2.2.2.2.2.2.2.2.2.2.2.2.2.2.2.2.2.2.2.2.2.2.2.2.2.2.2 grFar grQueue grQueued huX huY huSize huBestX huBestY S Rw) H → va_D (xsF X) (wK X kIsKept o1.1 hiLatest hiSize scBytes scTold scLength scFault scAt scNumber o1.2.1 o1.2.2.1 o1.2.2.2.1 o1.2.2.2.2.1 o1.2.2.2.2.2.1 o1.2.2.2.2.2.2.1 o1.2.2.2.2.2.2.2.1 o1.2.2.2.2.2.2.2.2.1 o1.2.2.2.2.2.2.2.2.2.1 o1.2.2.2.2.2.2.2.2.2.2.1 o1.2.2.2.2.2.2.2.2.2.2.2.1 o1.2.2.2.2.2.2.2.2.2.2.2.2.1 o1.2.2.2.2.2.2.2.2.2.2.2.2.2.1 o1.2.2.2.2.2.2.2.2.2.2.2.2.2.2.1 o1.2.2.2.2.2.2.2.2.2.2.2.2.2.2.2.1 o1.2.2.2.2.2.2.2.2.2.2.2.2.2.2.2.2.1 o1.2.2.2.2.2.2.2.2.2.2.2.2.2.2.2.2.2.1 o1.2.2.2.2.2.2.2.2.2.2.2.2.2.2.2.2.2.2.1 o1.2.2.2.2.2.2.2.2.2.2.2.2.2.2.2.2.2.2.2.1 o1.2.2.2.2.2.2.2.2.2.2.2.2.2.2.2.2.2.2.2.2.1 o1.2.2.2.2.2.2.2.2.2.2.2.2.2.2.2.2.2.2.2.2.2.1 o1.2.2.2.2.2.2.2.2.2.2.2.2.2.2.2.2.2.2.2.2.2.2.1 o1.2.2.2.2.2.2.2.2.2.2.2.2.2.2.2.2.2.2.2.2.2.2.2.1 o1.2.2.2.2.2.2.2.2.2.2.2.2.2.2.2.2.2.2.2.2.2.2.2.2.1 o1.2.2.2.2.2.2.2.2.2.2.2.2.2.2.2.2.2.2.2.2.2.2.2.2.2.1 o1.2.2.2.2.2.2.2.2.2.2.2.2.2.2.2.2.2.2.2.2.2.2.2.2.2.2.1 o1.2.2.2.2.2.2.2.2.2.2.2.2.2.2.2.2.2.2.2.2.2.2.2.2.2.2.2 grFar grQueue grQueued huX huY huSize huBestX huBestY S Rw) → va_S (xsF X) s.heap H locs → lv_has ls 6 [] → W p l e { frames := 7, cells := 1, slots := 6, locals := 153 } s m ([.ref (xsA X 0), .int a0, .int a1] : List Value).toArray below meth c H locs 1 6 (vx_MQ below Qq Xq ([.ref (xsA X 0), .int a0, .int a1] : List Value).toArray s 1 6 (xsF X)) (F0 m 83 ls []) := by
      intro hf H locs ls hP hD hS hl
      unfold fX10_status_J83 at hf
      refine lv_iconst (v := (-1 : Int32)) hx hb dX10_status_83 (by decide) ?_
      have ho := Option.some.inj hf
      subst ho
      rw [hQq]
      exact xs_xiret C hr hlk ⟨_, rfl, rfl, rfl⟩ hP hD hS (Nat.le_of_ble_eq_true rfl) (Nat.le_of_ble_eq_true rfl) dX10_status_84
    replace hf := xsBd_use hf
    obtain ⟨r9, hk90, hf⟩ := hf
    have L9 : ∀ (sg : Int32) (rg : ((Int32 × Int32 × Int32 × Int32 × Int64 × Int64 × Int64 × Int32 × Int32 × Int32 × Int32 × (Nat → Int32) × (Nat → Int32) × Int32 × Int32 × Int32 × (Nat → Int64) × (Nat → Int64) × (Nat → Int64) × (Nat → Int32) × (Nat → Int32) × (Nat → Int32) × (Nat → Int32) × (Nat → Int32) × Int32 × Int32 × Int32 × (Nat → Int32) × Int32) ⊕ (Nat × (Int32 × Int32 × Int32 × Int64 × Int64 × Int64 × Int32 × Int32 × Int32 × Int32 × (Nat → Int32) × (Nat → Int32) × Int32 × Int32 × Int32 × (Nat → Int64) × (Nat → Int64) × (Nat → Int64) × (Nat → Int32) × (Nat → Int32) × (Nat → Int32) × (Nat → Int32) × (Nat → Int32) × Int32 × Int32 × Int32 × (Nat → Int32) × Int32))) ⊕ (Unit)), xsWh (fun s9 => fX10_status_L37 g0Lx g0Ly g0Rx g0Ry g0Sz a0 a1 o1 o6 s9) sg = some rg → (xsSm rg (fun v9 => fX10_status_J83 o1) = some out → ∀ (H : Heap) (locs : List Loc) (ls : Array Slot), va_P (xsD X) vwCl (wK X kIsKept o1.1 hiLatest hiSize scBytes scTold scLength scFault scAt scNumber o1.2.1 o1.2.2.1 o1.2.2.2.1 o1.2.2.2.2.1 o1.2.2.2.2.2.1 o1.2.2.2.2.2.2.1 o1.2.2.2.2.2.2.2.1 o1.2.2.2.2.2.2.2.2.1 o1.2.2.2.2.2.2.2.2.2.1 o1.2.2.2.2.2.2.2.2.2.2.1 o1.2.2.2.2.2.2.2.2.2.2.2.1 o1.2.2.2.2.2.2.2.2.2.2.2.2.1 o1.2.2.2.2.2.2.2.2.2.2.2.2.2.1 o1.2.2.2.2.2.2.2.2.2.2.2.2.2.2.1 o1.2.2.2.2.2.2.2.2.2.2.2.2.2.2.2.1 o1.2.2.2.2.2.2.2.2.2.2.2.2.2.2.2.2.1 o1.2.2.2.2.2.2.2.2.2.2.2.2.2.2.2.2.2.1 o1.2.2.2.2.2.2.2.2.2.2.2.2.2.2.2.2.2.2.1 o1.2.2.2.2.2.2.2.2.2.2.2.2.2.2.2.2.2.2.2.1 o1.2.2.2.2.2.2.2.2.2.2.2.2.2.2.2.2.2.2.2.2.1 o1.2.2.2.2.2.2.2.2.2.2.2.2.2.2.2.2.2.2.2.2.2.1 o1.2.2.2.2.2.2.2.2.2.2.2.2.2.2.2.2.2.2.2.2.2.2.1 o1.2.2.2.2.2.2.2.2.2.2.2.2.2.2.2.2.2.2.2.2.2.2.2.1 o1.2.2.2.2.2.2.2.2.2.2.2.2.2.2.2.2.2.2.2.2.2.2.2.2.1 o1.2.2.2.2.2.2.2.2.2.2.2.2.2.2.2.2.2.2.2.2.2.2.2.2.2.1 o1.2.2.2.2.2.2.2.2.2.2.2.2.2.2.2.2.2.2.2.2.2.2.2.2.2.2.1 o1.2.2.2.2.2.2.2.2.2.2.2.2.2.2.2.2.2.2.2.2.2.2.2.2.2.2.2 grFar grQueue grQueued huX huY huSize huBestX huBestY S Rw) H → va_D (xsF X) (wK X kIsKept o1.1 hiLatest hiSize scBytes scTold scLength scFault scAt scNumber o1.2.1 o1.2.2.1 o1.2.2.2.1 o1.2.2.2.2.1 o1.2.2.2.2.2.1 o1.2.2.2.2.2.2.1 o1.2.2.2.2.2.2.2.1 o1.2.2.2.2.2.2.2.2.1 o1.2.2.2.2.2.2.2.2.2.1 o1.2.2.2.2.2.2.2.2.2.2.1 o1.2.2.2.2.2.2.2.2.2.2.2.1 o1.2.2.2.2.2.2.2.2.2.2.2.2.1 o1.2.2.2.2.2.2.2.2.2.2.2.2.2.1 o1.2.2.2.2.2.2.2.2.2.2.2.2.2.2.1 o1.2.2.2.2.2.2.2.2.2.2.2.2.2.2.2.1 o1.2.2.2.2.2.2.2.2.2.2.2.2.2.2.2.2.1 o1.2.2.2.2.2.2.2.2.2.2.2.2.2.2.2.2.2.1 o1.2.2.2.2.2.2.2.2.2.2.2.2.2.2.2.2.2.2.1 o1.2.2.2.2.2.2.2.2.2.2.2.2.2.2.2.2.2.2.2.1 o1.2.2.2.2.2.2.2.2.2.2.2.2.2.2.2.2.2.2.2.2.1 o1.2.2.2.2.2.2.2.2.2.2.2.2.2.2.2.2.2.2.2.2.2.1 o1.2.2.2.2.2.2.2.2.2.2.2.2.2.2.2.2.2.2.2.2.2.2.1 o1.2.2.2.2.2.2.2.2.2.2.2.2.2.2.2.2.2.2.2.2.2.2.2.1 o1.2.2.2.2.2.2.2.2.2.2.2.2.2.2.2.2.2.2.2.2.2.2.2.2.1 o1.2.2.2.2.2.2.2.2.2.2.2.2.2.2.2.2.2.2.2.2.2.2.2.2.2.1 o1.2.2.2.2.2.2.2.2.2.2.2.2.2.2.2.2.2.2.2.2.2.2.2.2.2.2.1 o1.2.2.2.2.2.2.2.2.2.2.2.2.2.2.2.2.2.2.2.2.2.2.2.2.2.2.2 grFar grQueue grQueued huX huY huSize huBestX huBestY S Rw) → va_S (xsF X) s.heap H locs → lv_has ls 6 [(0, .ref (xsA X 0)), (1, .int a0), (2, .int a1), (3, .ref (xsA X 11)), (4, .int o6), (5, .int sg)] → W p l e { frames := 7, cells := 1, slots := 6, locals := 153 } s m ([.ref (xsA X 0), .int a0, .int a1] : List Value).toArray below meth c H locs 1 6 (vx_MQ below Qq Xq ([.ref (xsA X 0), .int a0, .int a1] : List Value).toArray s 1 6 (xsF X)) (F0 m 37 ls [])) := by
      refine xsWh_ind ?_
      intro sg r9 u9 hf ih9 hx9 hk9 H locs ls hP hD hS hl
      obtain ⟨y8, ey⟩ : ∃ z, z = sg := ⟨_, rfl⟩
      subst ey
      replace hf : fX10_status_L37 g0Lx g0Ly g0Rx g0Ry g0Sz a0 a1 o1 o6 y8 = some u9 := hf
      replace hl : lv_has ls 6 [(0, .ref (xsA X 0)), (1, .int a0), (2, .int a1), (3, .ref (xsA X 11)), (4, .int o6), (5, .int y8)] := hl
      replace hP : va_P (xsD X) vwCl (wK X kIsKept o1.1 hiLatest hiSize scBytes scTold scLength scFault scAt scNumber o1.2.1 o1.2.2.1 o1.2.2.2.1 o1.2.2.2.2.1 o1.2.2.2.2.2.1 o1.2.2.2.2.2.2.1 o1.2.2.2.2.2.2.2.1 o1.2.2.2.2.2.2.2.2.1 o1.2.2.2.2.2.2.2.2.2.1 o1.2.2.2.2.2.2.2.2.2.2.1 o1.2.2.2.2.2.2.2.2.2.2.2.1 o1.2.2.2.2.2.2.2.2.2.2.2.2.1 o1.2.2.2.2.2.2.2.2.2.2.2.2.2.1 o1.2.2.2.2.2.2.2.2.2.2.2.2.2.2.1 o1.2.2.2.2.2.2.2.2.2.2.2.2.2.2.2.1 o1.2.2.2.2.2.2.2.2.2.2.2.2.2.2.2.2.1 o1.2.2.2.2.2.2.2.2.2.2.2.2.2.2.2.2.2.1 o1.2.2.2.2.2.2.2.2.2.2.2.2.2.2.2.2.2.2.1 o1.2.2.2.2.2.2.2.2.2.2.2.2.2.2.2.2.2.2.2.1 o1.2.2.2.2.2.2.2.2.2.2.2.2.2.2.2.2.2.2.2.2.1 o1.2.2.2.2.2.2.2.2.2.2.2.2.2.2.2.2.2.2.2.2.2.1 o1.2.2.2.2.2.2.2.2.2.2.2.2.2.2.2.2.2.2.2.2.2.2.1 o1.2.2.2.2.2.2.2.2.2.2.2.2.2.2.2.2.2.2.2.2.2.2.2.1 o1.2.2.2.2.2.2.2.2.2.2.2.2.2.2.2.2.2.2.2.2.2.2.2.2.1 o1.2.2.2.2.2.2.2.2.2.2.2.2.2.2.2.2.2.2.2.2.2.2.2.2.2.1 o1.2.2.2.2.2.2.2.2.2.2.2.2.2.2.2.2.2.2.2.2.2.2.2.2.2.2.1 o1.2.2.2.2.2.2.2.2.2.2.2.2.2.2.2.2.2.2.2.2.2.2.2.2.2.2.2 grFar grQueue grQueued huX huY huSize huBestX huBestY S Rw) H := hP
      replace hD : va_D (xsF X) (wK X kIsKept o1.1 hiLatest hiSize scBytes scTold scLength scFault scAt scNumber o1.2.1 o1.2.2.1 o1.2.2.2.1 o1.2.2.2.2.1 o1.2.2.2.2.2.1 o1.2.2.2.2.2.2.1 o1.2.2.2.2.2.2.2.1 o1.2.2.2.2.2.2.2.2.1 o1.2.2.2.2.2.2.2.2.2.1 o1.2.2.2.2.2.2.2.2.2.2.1 o1.2.2.2.2.2.2.2.2.2.2.2.1 o1.2.2.2.2.2.2.2.2.2.2.2.2.1 o1.2.2.2.2.2.2.2.2.2.2.2.2.2.1 o1.2.2.2.2.2.2.2.2.2.2.2.2.2.2.1 o1.2.2.2.2.2.2.2.2.2.2.2.2.2.2.2.1 o1.2.2.2.2.2.2.2.2.2.2.2.2.2.2.2.2.1 o1.2.2.2.2.2.2.2.2.2.2.2.2.2.2.2.2.2.1 o1.2.2.2.2.2.2.2.2.2.2.2.2.2.2.2.2.2.2.1 o1.2.2.2.2.2.2.2.2.2.2.2.2.2.2.2.2.2.2.2.1 o1.2.2.2.2.2.2.2.2.2.2.2.2.2.2.2.2.2.2.2.2.1 o1.2.2.2.2.2.2.2.2.2.2.2.2.2.2.2.2.2.2.2.2.2.1 o1.2.2.2.2.2.2.2.2.2.2.2.2.2.2.2.2.2.2.2.2.2.2.1 o1.2.2.2.2.2.2.2.2.2.2.2.2.2.2.2.2.2.2.2.2.2.2.2.1 o1.2.2.2.2.2.2.2.2.2.2.2.2.2.2.2.2.2.2.2.2.2.2.2.2.1 o1.2.2.2.2.2.2.2.2.2.2.2.2.2.2.2.2.2.2.2.2.2.2.2.2.2.1 o1.2.2.2.2.2.2.2.2.2.2.2.2.2.2.2.2.2.2.2.2.2.2.2.2.2.2.1 o1.2.2.2.2.2.2.2.2.2.2.2.2.2.2.2.2.2.2.2.2.2.2.2.2.2.2.2 grFar grQueue grQueued huX huY huSize huBestX huBestY S Rw) := hD
      unfold fX10_status_L37 at hf
      refine lv_iload hx hb dX10_status_37 (lv_at hl 5 rfl) ?_
      refine lv_aload_n hx hb dX10_status_39 rfl (lv_at hl 0 rfl) ?_
      refine xg_X10_10 C hP dX10_status_40 ?_
      refine xg_X10_119 (j := 0) (by decide) hs_0 C hP dX10_status_43 ?_
      refine lv_icmp_ge (tgt := 83) hx hb dX10_status_46 (by decide) (fun c18 => ?_) (fun c18 => ?_)
      · replace hf := xsBr_t c18 hf
        have ez := hx9 _ (Option.some.inj hf).symm
        subst ez
        exact K9 hk9 H locs ls hP hD hS (lv_sub hl [] rfl)
      · replace hf := xsBr_f c18 hf
        refine lv_iload hx hb dX10_status_49 (lv_at hl 4 rfl) ?_
        refine lv_iload hx hb dX10_status_51 (lv_at hl 5 rfl) ?_
        replace hf := xsBd_use hf
        obtain ⟨o10, h11, hf⟩ := hf
        refine xs_calli hS (xs_runS (As := [.int o6, .int y8]) C (mX10_has l  h11) w_1194 w_605 w_105 w_606 hd_X10_has ⟨rfl, rfl, Nat.le_of_ble_eq_true rfl, Nat.le_of_ble_eq_true rfl, Nat.le_of_ble_eq_true rfl, Nat.le_of_ble_eq_true rfl⟩ hP hD hS hl.1 rfl (Nat.le_of_ble_eq_true rfl) dX10_status_53) (fun H locs hP hD hS => ?_)
        refine lv_if_eq (tgt := 77) hx hb dX10_status_56 (by decide) (fun c17 => ?_) (fun c17 => ?_)
        · replace hf := xsBr_t c17 hf
          obtain ⟨x12, ex12⟩ : ∃ y : Int32, y = y8 + (1 : Int32) := ⟨_, rfl⟩
          replace hf := xsLt_use ex12 hf
          refine lv_iinc (v := x12) (lv' := [(5, .int x12), (0, .ref (xsA X 0)), (1, .int a0), (2, .int a1), (3, .ref (xsA X 11)), (4, .int o6)]) hx hb dX10_status_77 hl (k := 5) rfl (by rw [ex12]; rfl) (by decide) rfl (fun ls hl => ?_)
          refine lv_goto (tgt := 37) hx hb dX10_status_80 (by decide) ?_
          exact ih9 _ (Option.some.inj hf).symm hk9 H locs ls hP hD hS (lv_sub hl [1, 2, 3, 4, 5, 0] rfl)
        · replace hf := xsBr_f c17 hf
          refine lv_aload_n hx hb dX10_status_59 rfl (lv_at hl 0 rfl) ?_
          refine xg_X10_10 C hP dX10_status_60 ?_
          refine lv_aload_n hx hb dX10_status_63 rfl (lv_at hl 3 rfl) ?_
          refine lv_iload_n hx hb dX10_status_64 rfl (lv_at hl 1 rfl) ?_
          refine lv_iload hx hb dX10_status_65 (lv_at hl 5 rfl) ?_
          replace hf := xsBd_use hf
          obtain ⟨o13, h14, hf⟩ := hf
          refine xs_calli hS (xs_runS (As := [.ref (xsA X 27), .ref (xsA X 11), .int a0, .int y8]) C (mX8_rankOf l (js := 0) (by decide) hs_0 h14) w_1195 w_1196 w_130 w_1197 hd_X8_rankOf ⟨rfl, rfl, Nat.le_of_ble_eq_true rfl, Nat.le_of_ble_eq_true rfl, Nat.le_of_ble_eq_true rfl, Nat.le_of_ble_eq_true rfl⟩ hP hD hS hl.1 rfl (Nat.le_of_ble_eq_true rfl) dX10_status_67) (fun H locs hP hD hS => ?_)
          refine lv_iload_n hx hb dX10_status_70 rfl (lv_at hl 2 rfl) ?_
          refine lv_icmp_ne (tgt := 77) hx hb dX10_status_71 (by decide) (fun c16 => ?_) (fun c16 => ?_)
          · replace hf := xsBr_f c16 hf
            obtain ⟨x15, ex15⟩ : ∃ y : Int32, y = y8 + (1 : Int32) := ⟨_, rfl⟩
            replace hf := xsLt_use ex15 hf
            refine lv_iinc (v := x15) (lv' := [(5, .int x15), (0, .ref (xsA X 0)), (1, .int a0), (2, .int a1), (3, .ref (xsA X 11)), (4, .int o6)]) hx hb dX10_status_77 hl (k := 5) rfl (by rw [ex15]; rfl) (by decide) rfl (fun ls hl => ?_)
            refine lv_goto (tgt := 37) hx hb dX10_status_80 (by decide) ?_
            exact ih9 _ (Option.some.inj hf).symm hk9 H locs ls hP hD hS (lv_sub hl [1, 2, 3, 4, 5, 0] rfl)
          · replace hf := xsBr_t c16 hf
            refine lv_iload hx hb dX10_status_74 (lv_at hl 5 rfl) ?_
            have ez := hx9 _ (Option.some.inj hf).symm
            subst ez
            have hf := hk9
            have ho := Option.some.inj hf
            subst ho
            rw [hQq]
            exact xs_xiret C hr hlk ⟨_, rfl, rfl, rfl⟩ hP hD hS (Nat.le_of_ble_eq_true rfl) (Nat.le_of_ble_eq_true rfl) dX10_status_76
    exact L9 (0 : Int32) r9 hk90 hf H locs ls hP hD hS (lv_sub hl [3, 4, 5, 2, 1, 0] rfl)
  · replace hf := xsBr_t c21 hf
    refine lv_iload hx hb dX10_status_28 (lv_at hl 0 rfl) ?_
    replace hf := xsBd_use hf
    obtain ⟨o19, h20, hf⟩ := hf
    refine xs_calli hS (xs_runS (As := [.int o6]) C (mJ6_bitCount_0f7a4 l  h20) w_1169 w_608 w_128 w_609 hd_J6_bitCount_0f7a4 ⟨rfl, rfl, Nat.le_of_ble_eq_true rfl, Nat.le_of_ble_eq_true rfl, Nat.le_of_ble_eq_true rfl, Nat.le_of_ble_eq_true rfl⟩ hP hD hS hl.1 rfl (Nat.le_of_ble_eq_true rfl) dX10_status_30) (fun H locs hP hD hS => ?_)
    have ho := Option.some.inj hf
    subst ho
    rw [hQq]
    exact xs_xiret C hr hlk ⟨_, rfl, rfl, rfl⟩ hP hD hS (Nat.le_of_ble_eq_true rfl) (Nat.le_of_ble_eq_true rfl) dX10_status_33
set_option maxRecDepth 100000 in
set_option maxHeartbeats 8000000 in
theorem mX10_rank (l : Launch) (hst : l.stackTraces = false) {X : xsX} {kIsKept kIsStale hiLatest hiSize scLength scFault scAt scNumber piSegmentsNow enKind enFromX enFromY enToX enToY tiMeetingPairs tiAlongPairs tiSize evSize evCrossings evSegmentsNow grEdges grQueued huSize huBestX huBestY : Int32} {scBytes scTold tiTouching tiLyingAlong evBundle evCrossingOf evEventOf evLeftEvent evRightEvent grDegree grFar grQueue huX huY : Nat → Int32} {enX enY enLower : Int64} {evX evY evLower : Nat → Int64} {S : Nat → xsV} {Rw : va_W} {g0Lx g0Ly g0Rx g0Ry g0Ti : Nat → Int32} {g0Sz : Int32} (hs_0 : S 0 = (g0Lx, g0Ly, g0Rx, g0Ry, g0Ti, g0Sz)) {a0 : Int32} {a1 : Int32} {out : (Int32 × Int32 × Int32 × Int32 × Int64 × Int64 × Int64 × Int32 × Int32 × Int32 × Int32 × (Nat → Int32) × (Nat → Int32) × Int32 × Int32 × Int32 × (Nat → Int64) × (Nat → Int64) × (Nat → Int64) × (Nat → Int32) × (Nat → Int32) × (Nat → Int32) × (Nat → Int32) × (Nat → Int32) × Int32 × Int32 × Int32 × (Nat → Int32) × Int32) ⊕ (Nat × (Int32 × Int32 × Int32 × Int64 × Int64 × Int64 × Int32 × Int32 × Int32 × Int32 × (Nat → Int32) × (Nat → Int32) × Int32 × Int32 × Int32 × (Nat → Int64) × (Nat → Int64) × (Nat → Int64) × (Nat → Int32) × (Nat → Int32) × (Nat → Int32) × (Nat → Int32) × (Nat → Int32) × Int32 × Int32 × Int32 × (Nat → Int32) × Int32))} (hf : fX10_rank kIsStale piSegmentsNow enKind enX enY enLower enFromX enFromY enToX enToY tiTouching tiLyingAlong tiMeetingPairs tiAlongPairs tiSize evX evY evLower evBundle evCrossingOf evEventOf evLeftEvent evRightEvent evSize evCrossings evSegmentsNow grDegree grEdges g0Lx g0Ly g0Rx g0Ry g0Sz a0 a1 = some out) : vx_Met l yX10_rank (xsWs yX10_rank cX10_rank 4 (some .int)) { frames := 8, cells := 2, slots := 12, locals := 153 } (xsP X (wK X kIsKept kIsStale hiLatest hiSize scBytes scTold scLength scFault scAt scNumber piSegmentsNow enKind enX enY enLower enFromX enFromY enToX enToY tiTouching tiLyingAlong tiMeetingPairs tiAlongPairs tiSize evX evY evLower evBundle evCrossingOf evEventOf evLeftEvent evRightEvent evSize evCrossings evSegmentsNow grDegree grEdges grFar grQueue grQueued huX huY huSize huBestX huBestY S Rw) [.ref (xsA X 0), .int a0, .int a1]) (xsXi X (fun r u => ∃ tt, out = .inl tt ∧ r = tt.1 ∧ u = wK X kIsKept tt.2.1 hiLatest hiSize scBytes scTold scLength scFault scAt scNumber tt.2.2.1 tt.2.2.2.1 tt.2.2.2.2.1 tt.2.2.2.2.2.1 tt.2.2.2.2.2.2.1 tt.2.2.2.2.2.2.2.1 tt.2.2.2.2.2.2.2.2.1 tt.2.2.2.2.2.2.2.2.2.1 tt.2.2.2.2.2.2.2.2.2.2.1 tt.2.2.2.2.2.2.2.2.2.2.2.1 tt.2.2.2.2.2.2.2.2.2.2.2.2.1 tt.2.2.2.2.2.2.2.2.2.2.2.2.2.1 tt.2.2.2.2.2.2.2.2.2.2.2.2.2.2.1 tt.2.2.2.2.2.2.2.2.2.2.2.2.2.2.2.1 tt.2.2.2.2.2.2.2.2.2.2.2.2.2.2.2.2.1 tt.2.2.2.2.2.2.2.2.2.2.2.2.2.2.2.2.2.1 tt.2.2.2.2.2.2.2.2.2.2.2.2.2.2.2.2.2.2.1 tt.2.2.2.2.2.2.2.2.2.2.2.2.2.2.2.2.2.2.2.1 tt.2.2.2.2.2.2.2.2.2.2.2.2.2.2.2.2.2.2.2.2.1 tt.2.2.2.2.2.2.2.2.2.2.2.2.2.2.2.2.2.2.2.2.2.1 tt.2.2.2.2.2.2.2.2.2.2.2.2.2.2.2.2.2.2.2.2.2.2.1 tt.2.2.2.2.2.2.2.2.2.2.2.2.2.2.2.2.2.2.2.2.2.2.2.1 tt.2.2.2.2.2.2.2.2.2.2.2.2.2.2.2.2.2.2.2.2.2.2.2.2.1 tt.2.2.2.2.2.2.2.2.2.2.2.2.2.2.2.2.2.2.2.2.2.2.2.2.2.1 tt.2.2.2.2.2.2.2.2.2.2.2.2.2.2.2.2.2.2.2.2.2.2.2.2.2.2.1 tt.2.2.2.2.2.2.2.2.2.2.2.2.2.2.2.2.2.2.2.2.2.2.2.2.2.2.2.1 tt.2.2.2.2.2.2.2.2.2.2.2.2.2.2.2.2.2.2.2.2.2.2.2.2.2.2.2.2 grFar grQueue grQueued huX huY huSize huBestX huBestY S Rw)) (xsXC X (fun n u => ∃ tt, out = .inr (n, tt) ∧ u = wK X kIsKept tt.1 hiLatest hiSize scBytes scTold scLength scFault scAt scNumber tt.2.1 tt.2.2.1 tt.2.2.2.1 tt.2.2.2.2.1 tt.2.2.2.2.2.1 tt.2.2.2.2.2.2.1 tt.2.2.2.2.2.2.2.1 tt.2.2.2.2.2.2.2.2.1 tt.2.2.2.2.2.2.2.2.2.1 tt.2.2.2.2.2.2.2.2.2.2.1 tt.2.2.2.2.2.2.2.2.2.2.2.1 tt.2.2.2.2.2.2.2.2.2.2.2.2.1 tt.2.2.2.2.2.2.2.2.2.2.2.2.2.1 tt.2.2.2.2.2.2.2.2.2.2.2.2.2.2.1 tt.2.2.2.2.2.2.2.2.2.2.2.2.2.2.2.1 tt.2.2.2.2.2.2.2.2.2.2.2.2.2.2.2.2.1 tt.2.2.2.2.2.2.2.2.2.2.2.2.2.2.2.2.2.1 tt.2.2.2.2.2.2.2.2.2.2.2.2.2.2.2.2.2.2.1 tt.2.2.2.2.2.2.2.2.2.2.2.2.2.2.2.2.2.2.2.1 tt.2.2.2.2.2.2.2.2.2.2.2.2.2.2.2.2.2.2.2.2.1 tt.2.2.2.2.2.2.2.2.2.2.2.2.2.2.2.2.2.2.2.2.2.1 tt.2.2.2.2.2.2.2.2.2.2.2.2.2.2.2.2.2.2.2.2.2.2.1 tt.2.2.2.2.2.2.2.2.2.2.2.2.2.2.2.2.2.2.2.2.2.2.2.1 tt.2.2.2.2.2.2.2.2.2.2.2.2.2.2.2.2.2.2.2.2.2.2.2.2.1 tt.2.2.2.2.2.2.2.2.2.2.2.2.2.2.2.2.2.2.2.2.2.2.2.2.2.1 tt.2.2.2.2.2.2.2.2.2.2.2.2.2.2.2.2.2.2.2.2.2.2.2.2.2.2.1 tt.2.2.2.2.2.2.2.2.2.2.2.2.2.2.2.2.2.2.2.2.2.2.2.2.2.2.2 grFar grQueue grQueued huX huY huSize huBestX huBestY S Rw)) 2 12 (xsF X) := by
  refine xs_xmet RX10 (by decide) rfl (Nat.le_of_ble_eq_true rfl) ?_
  intro p e s m below meth c ls H locs C hout hP hD hS hr hlk hl
  have hx := C.1
  have hb := C.2.1
  have hl : lv_has ls 4 [(0, .ref (xsA X 0)), (1, .int a0), (2, .int a1)] := hl
  obtain ⟨Qq, hQq⟩ : ∃ Qq, Qq = xsXi X (fun r u => ∃ tt, out = .inl tt ∧ r = tt.1 ∧ u = wK X kIsKept tt.2.1 hiLatest hiSize scBytes scTold scLength scFault scAt scNumber tt.2.2.1 tt.2.2.2.1 tt.2.2.2.2.1 tt.2.2.2.2.2.1 tt.2.2.2.2.2.2.1 tt.2.2.2.2.2.2.2.1 tt.2.2.2.2.2.2.2.2.1 tt.2.2.2.2.2.2.2.2.2.1 tt.2.2.2.2.2.2.2.2.2.2.1 tt.2.2.2.2.2.2.2.2.2.2.2.1 tt.2.2.2.2.2.2.2.2.2.2.2.2.1 tt.2.2.2.2.2.2.2.2.2.2.2.2.2.1 tt.2.2.2.2.2.2.2.2.2.2.2.2.2.2.1 tt.2.2.2.2.2.2.2.2.2.2.2.2.2.2.2.1 tt.2.2.2.2.2.2.2.2.2.2.2.2.2.2.2.2.1 tt.2.2.2.2.2.2.2.2.2.2.2.2.2.2.2.2.2.1 tt.2.2.2.2.2.2.2.2.2.2.2.2.2.2.2.2.2.2.1 tt.2.2.2.2.2.2.2.2.2.2.2.2.2.2.2.2.2.2.2.1 tt.2.2.2.2.2.2.2.2.2.2.2.2.2.2.2.2.2.2.2.2.1 tt.2.2.2.2.2.2.2.2.2.2.2.2.2.2.2.2.2.2.2.2.2.1 tt.2.2.2.2.2.2.2.2.2.2.2.2.2.2.2.2.2.2.2.2.2.2.1 tt.2.2.2.2.2.2.2.2.2.2.2.2.2.2.2.2.2.2.2.2.2.2.2.1 tt.2.2.2.2.2.2.2.2.2.2.2.2.2.2.2.2.2.2.2.2.2.2.2.2.1 tt.2.2.2.2.2.2.2.2.2.2.2.2.2.2.2.2.2.2.2.2.2.2.2.2.2.1 tt.2.2.2.2.2.2.2.2.2.2.2.2.2.2.2.2.2.2.2.2.2.2.2.2.2.2.1 tt.2.2.2.2.2.2.2.2.2.2.2.2.2.2.2.2.2.2.2.2.2.2.2.2.2.2.2.1 tt.2.2.2.2.2.2.2.2.2.2.2.2.2.2.2.2.2.2.2.2.2.2.2.2.2.2.2.2 grFar grQueue grQueued huX huY huSize huBestX huBestY S Rw) := ⟨_, rfl⟩
  rw [← hQq]
  obtain ⟨Xq, hXq⟩ : ∃ Xq, Xq = xsXC X (fun n u => ∃ tt, out = .inr (n, tt) ∧ u = wK X kIsKept tt.1 hiLatest hiSize scBytes scTold scLength scFault scAt scNumber tt.2.1 tt.2.2.1 tt.2.2.2.1 tt.2.2.2.2.1 tt.2.2.2.2.2.1 tt.2.2.2.2.2.2.1 tt.2.2.2.2.2.2.2.1 tt.2.2.2.2.2.2.2.2.1 tt.2.2.2.2.2.2.2.2.2.1 tt.2.2.2.2.2.2.2.2.2.2.1 tt.2.2.2.2.2.2.2.2.2.2.2.1 tt.2.2.2.2.2.2.2.2.2.2.2.2.1 tt.2.2.2.2.2.2.2.2.2.2.2.2.2.1 tt.2.2.2.2.2.2.2.2.2.2.2.2.2.2.1 tt.2.2.2.2.2.2.2.2.2.2.2.2.2.2.2.1 tt.2.2.2.2.2.2.2.2.2.2.2.2.2.2.2.2.1 tt.2.2.2.2.2.2.2.2.2.2.2.2.2.2.2.2.2.1 tt.2.2.2.2.2.2.2.2.2.2.2.2.2.2.2.2.2.2.1 tt.2.2.2.2.2.2.2.2.2.2.2.2.2.2.2.2.2.2.2.1 tt.2.2.2.2.2.2.2.2.2.2.2.2.2.2.2.2.2.2.2.2.1 tt.2.2.2.2.2.2.2.2.2.2.2.2.2.2.2.2.2.2.2.2.2.1 tt.2.2.2.2.2.2.2.2.2.2.2.2.2.2.2.2.2.2.2.2.2.2.1 tt.2.2.2.2.2.2.2.2.2.2.2.2.2.2.2.2.2.2.2.2.2.2.2.1 tt.2.2.2.2.2.2.2.2.2.2.2.2.2.2.2.2.2.2.2.2.2.2.2.2.1 tt.2.2.2.2.2.2.2.2.2.2.2.2.2.2.2.2.2.2.2.2.2.2.2.2.2.1 tt.2.2.2.2.2.2.2.2.2.2.2.2.2.2.2.2.2.2.2.2.2.2.2.2.2.2.1 tt.2.2.2.2.2.2.2.2.2.2.2.2.2.2.2.2.2.2.2.2.2.2.2.2.2.2.2 grFar grQueue grQueued huX huY huSize huBestX huBestY S Rw) := ⟨_, rfl⟩
  rw [← hXq]
  unfold fX10_rank at hf
  refine lv_aload_n hx hb dX10_rank_0 rfl (lv_at hl 0 rfl) ?_
  refine lv_iload_n hx hb dX10_rank_1 rfl (lv_at hl 1 rfl) ?_
  replace hf := xsBd_use hf
  obtain ⟨o1, h2, hf⟩ := hf
  refine xs_xcallv hS (xs_xrunV (As := [.int a0]) C (mX10_checkSegment l hst hs_0 h2) w_1018 w_1020 w_28 w_105 w_1021 hd_X10_checkSegment ⟨rfl, rfl, Nat.le_of_ble_eq_true rfl, Nat.le_of_ble_eq_true rfl, Nat.le_of_ble_eq_true rfl, Nat.le_of_ble_eq_true rfl⟩ hP hD hS lk_X10 rfl hl.1 rfl (Nat.le_of_ble_eq_true rfl) dX10_rank_2) (fun n u q H locs hpx hP hD hS hq => ?_) (fun u H locs hp hP hD hS => ?_)
  · obtain ⟨tx, e1, e2⟩ := hpx
    subst e1
    subst e2
    have ho := Option.some.inj hf
    subst ho
    rw [hXq]
    exact xs_xpass hlk hout ⟨_, rfl, rfl⟩ hP hD hS hq (Nat.le_of_ble_eq_true rfl) (Nat.le_of_ble_eq_true rfl)
  obtain ⟨v3, e1, e3⟩ := hp
  subst e1
  subst e3
  replace hf := xsTh_use hf
  refine W.widen (k := 1) (n := 6) (Nat.le_refl _) (Nat.le_refl _) ?_
  refine lv_aload_n hx hb dX10_rank_5 rfl (lv_at hl 0 rfl) ?_
  replace hf := xsBd_use hf
  obtain ⟨o4, h5, hf⟩ := hf
  refine xs_callr hS (xs_runV (As := []) C (mX10_drawn l hs_0 h5) w_535 w_537 w_2 w_105 w_538 hd_X10_drawn ⟨rfl, rfl, Nat.le_of_ble_eq_true rfl, Nat.le_of_ble_eq_true rfl, Nat.le_of_ble_eq_true rfl, Nat.le_of_ble_eq_true rfl⟩ hP hD hS lk_X10 rfl hl.1 rfl (Nat.le_of_ble_eq_true rfl) dX10_rank_6) (fun H locs hP hD hS => ?_)
  refine xg_X10_129 C hP dX10_rank_9 ?_
  refine lv_astore_n (lv' := [(3, .ref (xsA X 11)), (0, .ref (xsA X 0)), (1, .int a0), (2, .int a1)]) hx hb dX10_rank_12 rfl hl (by decide) rfl (fun ls hl => ?_)
  refine lv_iload_n hx hb dX10_rank_13 rfl (lv_at hl 3 rfl) ?_
  refine lv_aload_n hx hb dX10_rank_14 rfl (lv_at hl 0 rfl) ?_
  refine xg_X10_158 C hP dX10_rank_15 ?_
  replace hf := xsBd_use hf
  obtain ⟨o6, h7, hf⟩ := hf
  refine xs_xcallv hS (xs_xrunS (As := [.int a1, .int o4.2.2.2.2.2.2.2.2.2.2.2.2.2.2.2.2.2.2.2.2.2.2.2.1]) C (mX10_checkPlace l hst  h7) w_1022 w_1023 w_105 w_1024 hd_X10_checkPlace ⟨rfl, rfl, Nat.le_of_ble_eq_true rfl, Nat.le_of_ble_eq_true rfl, Nat.le_of_ble_eq_true rfl, Nat.le_of_ble_eq_true rfl⟩ hP hD hS hl.1 rfl (Nat.le_of_ble_eq_true rfl) dX10_rank_18) (fun n u q H locs hpx hP hD hS hq => ?_) (fun u H locs hp hP hD hS => ?_)
  · obtain ⟨tx, e1, e2⟩ := hpx
    subst e1
    subst e2
    have ho := Option.some.inj hf
    subst ho
    rw [hXq]
    exact xs_xpass hlk hout ⟨_, rfl, rfl⟩ hP hD hS hq (Nat.le_of_ble_eq_true rfl) (Nat.le_of_ble_eq_true rfl)
  obtain ⟨v8, e1, e3⟩ := hp
  subst e1
  subst e3
  replace hf := xsTh_use hf
  refine W.widen (k := 2) (n := 12) (Nat.le_refl _) (Nat.le_refl _) ?_
  refine lv_aload_n hx hb dX10_rank_21 rfl (lv_at hl 0 rfl) ?_
  refine lv_iload_n hx hb dX10_rank_22 rfl (lv_at hl 3 rfl) ?_
  replace hf := xsBd_use hf
  obtain ⟨o9, h10, hf⟩ := hf
  refine xs_calli hS (xs_runV (As := [.int a1]) C (mX1_aliveBehind l  h10) w_1193 w_634 w_635 w_112 w_636 hd_X1_aliveBehind ⟨rfl, rfl, Nat.le_of_ble_eq_true rfl, Nat.le_of_ble_eq_true rfl, Nat.le_of_ble_eq_true rfl, Nat.le_of_ble_eq_true rfl⟩ hP hD hS lk_X1 rfl hl.1 rfl (Nat.le_of_ble_eq_true rfl) dX10_rank_23) (fun H locs hP hD hS => ?_)
  refine lv_iload_n hx hb dX10_rank_26 rfl (lv_at hl 2 rfl) ?_
  replace hf := xsBd_use hf
  obtain ⟨o11, h12, hf⟩ := hf
  refine xs_calli hS (xs_runS (As := [.int o9, .int a0]) C (mX10_has l  h12) w_1194 w_605 w_105 w_606 hd_X10_has ⟨rfl, rfl, Nat.le_of_ble_eq_true rfl, Nat.le_of_ble_eq_true rfl, Nat.le_of_ble_eq_true rfl, Nat.le_of_ble_eq_true rfl⟩ hP hD hS hl.1 rfl (Nat.le_of_ble_eq_true rfl) dX10_rank_27) (fun H locs hP hD hS => ?_)
  refine lv_if_ne (tgt := 35) hx hb dX10_rank_30 (by decide) (fun c15 => ?_) (fun c15 => ?_)
  · replace hf := xsBr_f c15 hf
    refine lv_aload_n hx hb dX10_rank_35 rfl (lv_at hl 1 rfl) ?_
    refine xg_X10_10 C hP dX10_rank_36 ?_
    refine lv_aload_n hx hb dX10_rank_39 rfl (lv_at hl 0 rfl) ?_
    refine lv_iload_n hx hb dX10_rank_40 rfl (lv_at hl 3 rfl) ?_
    refine lv_iload_n hx hb dX10_rank_41 rfl (lv_at hl 2 rfl) ?_
    replace hf := xsBd_use hf
    obtain ⟨o13, h14, hf⟩ := hf
    refine xs_calli hS (xs_runS (As := [.ref (xsA X 27), .ref (xsA X 11), .int a1, .int a0]) C (mX8_rankOf l (js := 0) (by decide) hs_0 h14) w_1195 w_1196 w_130 w_1197 hd_X8_rankOf ⟨rfl, rfl, Nat.le_of_ble_eq_true rfl, Nat.le_of_ble_eq_true rfl, Nat.le_of_ble_eq_true rfl, Nat.le_of_ble_eq_true rfl⟩ hP hD hS hl.1 rfl (Nat.le_of_ble_eq_true rfl) dX10_rank_42) (fun H locs hP hD hS => ?_)
    have ho := Option.some.inj hf
    subst ho
    rw [hQq]
    exact xs_xiret C hr hlk ⟨_, rfl, rfl, rfl⟩ hP hD hS (Nat.le_of_ble_eq_true rfl) (Nat.le_of_ble_eq_true rfl) dX10_rank_45
  · replace hf := xsBr_t c15 hf
    refine lv_iconst (v := (-1 : Int32)) hx hb dX10_rank_33 (by decide) ?_
    have ho := Option.some.inj hf
    subst ho
    rw [hQq]
    exact xs_xiret C hr hlk ⟨_, rfl, rfl, rfl⟩ hP hD hS (Nat.le_of_ble_eq_true rfl) (Nat.le_of_ble_eq_true rfl) dX10_rank_34
set_option maxRecDepth 100000 in
set_option maxHeartbeats 8000000 in
theorem mX10_road (l : Launch) (hst : l.stackTraces = false) {X : xsX} {kIsKept kIsStale hiLatest hiSize scLength scFault scAt scNumber piSegmentsNow enKind enFromX enFromY enToX enToY tiMeetingPairs tiAlongPairs tiSize evSize evCrossings evSegmentsNow grEdges grQueued huSize huBestX huBestY : Int32} {scBytes scTold tiTouching tiLyingAlong evBundle evCrossingOf evEventOf evLeftEvent evRightEvent grDegree grFar grQueue huX huY : Nat → Int32} {enX enY enLower : Int64} {evX evY evLower : Nat → Int64} {S : Nat → xsV} {Rw : va_W} {g0Lx g0Ly g0Rx g0Ry g0Ti : Nat → Int32} {g0Sz : Int32} (hs_0 : S 0 = (g0Lx, g0Ly, g0Rx, g0Ry, g0Ti, g0Sz)) {a0 : Int32} {a1 : Int32} {out : (Int32 × Int32 × Int32 × Int32 × Int64 × Int64 × Int64 × Int32 × Int32 × Int32 × Int32 × (Nat → Int32) × (Nat → Int32) × Int32 × Int32 × Int32 × (Nat → Int64) × (Nat → Int64) × (Nat → Int64) × (Nat → Int32) × (Nat → Int32) × (Nat → Int32) × (Nat → Int32) × (Nat → Int32) × Int32 × Int32 × Int32 × (Nat → Int32) × Int32 × (Nat → Int32) × (Nat → Int32) × Int32) ⊕ (Nat × (Int32 × Int32 × Int32 × Int64 × Int64 × Int64 × Int32 × Int32 × Int32 × Int32 × (Nat → Int32) × (Nat → Int32) × Int32 × Int32 × Int32 × (Nat → Int64) × (Nat → Int64) × (Nat → Int64) × (Nat → Int32) × (Nat → Int32) × (Nat → Int32) × (Nat → Int32) × (Nat → Int32) × Int32 × Int32 × Int32 × (Nat → Int32) × Int32 × (Nat → Int32) × (Nat → Int32) × Int32))} (hf : fX10_road kIsStale piSegmentsNow enKind enX enY enLower enFromX enFromY enToX enToY tiTouching tiLyingAlong tiMeetingPairs tiAlongPairs tiSize evX evY evLower evBundle evCrossingOf evEventOf evLeftEvent evRightEvent evSize evCrossings evSegmentsNow grDegree grEdges grFar grQueue grQueued g0Lx g0Ly g0Rx g0Ry g0Sz a0 a1 = some out) : vx_Met l yX10_road (xsWs yX10_road cX10_road 4 (some .int)) { frames := 7, cells := 2, slots := 12, locals := 153 } (xsP X (wK X kIsKept kIsStale hiLatest hiSize scBytes scTold scLength scFault scAt scNumber piSegmentsNow enKind enX enY enLower enFromX enFromY enToX enToY tiTouching tiLyingAlong tiMeetingPairs tiAlongPairs tiSize evX evY evLower evBundle evCrossingOf evEventOf evLeftEvent evRightEvent evSize evCrossings evSegmentsNow grDegree grEdges grFar grQueue grQueued huX huY huSize huBestX huBestY S Rw) [.ref (xsA X 0), .int a0, .int a1]) (xsXi X (fun r u => ∃ tt, out = .inl tt ∧ r = tt.1 ∧ u = wK X kIsKept tt.2.1 hiLatest hiSize scBytes scTold scLength scFault scAt scNumber tt.2.2.1 tt.2.2.2.1 tt.2.2.2.2.1 tt.2.2.2.2.2.1 tt.2.2.2.2.2.2.1 tt.2.2.2.2.2.2.2.1 tt.2.2.2.2.2.2.2.2.1 tt.2.2.2.2.2.2.2.2.2.1 tt.2.2.2.2.2.2.2.2.2.2.1 tt.2.2.2.2.2.2.2.2.2.2.2.1 tt.2.2.2.2.2.2.2.2.2.2.2.2.1 tt.2.2.2.2.2.2.2.2.2.2.2.2.2.1 tt.2.2.2.2.2.2.2.2.2.2.2.2.2.2.1 tt.2.2.2.2.2.2.2.2.2.2.2.2.2.2.2.1 tt.2.2.2.2.2.2.2.2.2.2.2.2.2.2.2.2.1 tt.2.2.2.2.2.2.2.2.2.2.2.2.2.2.2.2.2.1 tt.2.2.2.2.2.2.2.2.2.2.2.2.2.2.2.2.2.2.1 tt.2.2.2.2.2.2.2.2.2.2.2.2.2.2.2.2.2.2.2.1 tt.2.2.2.2.2.2.2.2.2.2.2.2.2.2.2.2.2.2.2.2.1 tt.2.2.2.2.2.2.2.2.2.2.2.2.2.2.2.2.2.2.2.2.2.1 tt.2.2.2.2.2.2.2.2.2.2.2.2.2.2.2.2.2.2.2.2.2.2.1 tt.2.2.2.2.2.2.2.2.2.2.2.2.2.2.2.2.2.2.2.2.2.2.2.1 tt.2.2.2.2.2.2.2.2.2.2.2.2.2.2.2.2.2.2.2.2.2.2.2.2.1 tt.2.2.2.2.2.2.2.2.2.2.2.2.2.2.2.2.2.2.2.2.2.2.2.2.2.1 tt.2.2.2.2.2.2.2.2.2.2.2.2.2.2.2.2.2.2.2.2.2.2.2.2.2.2.1 tt.2.2.2.2.2.2.2.2.2.2.2.2.2.2.2.2.2.2.2.2.2.2.2.2.2.2.2.1 tt.2.2.2.2.2.2.2.2.2.2.2.2.2.2.2.2.2.2.2.2.2.2.2.2.2.2.2.2.1 tt.2.2.2.2.2.2.2.2.2.2.2.2.2.2.2.2.2.2.2.2.2.2.2.2.2.2.2.2.2.1 tt.2.2.2.2.2.2.2.2.2.2.2.2.2.2.2.2.2.2.2.2.2.2.2.2.2.2.2.2.2.2.1 tt.2.2.2.2.2.2.2.2.2.2.2.2.2.2.2.2.2.2.2.2.2.2.2.2.2.2.2.2.2.2.2 huX huY huSize huBestX huBestY S Rw)) (xsXC X (fun n u => ∃ tt, out = .inr (n, tt) ∧ u = wK X kIsKept tt.1 hiLatest hiSize scBytes scTold scLength scFault scAt scNumber tt.2.1 tt.2.2.1 tt.2.2.2.1 tt.2.2.2.2.1 tt.2.2.2.2.2.1 tt.2.2.2.2.2.2.1 tt.2.2.2.2.2.2.2.1 tt.2.2.2.2.2.2.2.2.1 tt.2.2.2.2.2.2.2.2.2.1 tt.2.2.2.2.2.2.2.2.2.2.1 tt.2.2.2.2.2.2.2.2.2.2.2.1 tt.2.2.2.2.2.2.2.2.2.2.2.2.1 tt.2.2.2.2.2.2.2.2.2.2.2.2.2.1 tt.2.2.2.2.2.2.2.2.2.2.2.2.2.2.1 tt.2.2.2.2.2.2.2.2.2.2.2.2.2.2.2.1 tt.2.2.2.2.2.2.2.2.2.2.2.2.2.2.2.2.1 tt.2.2.2.2.2.2.2.2.2.2.2.2.2.2.2.2.2.1 tt.2.2.2.2.2.2.2.2.2.2.2.2.2.2.2.2.2.2.1 tt.2.2.2.2.2.2.2.2.2.2.2.2.2.2.2.2.2.2.2.1 tt.2.2.2.2.2.2.2.2.2.2.2.2.2.2.2.2.2.2.2.2.1 tt.2.2.2.2.2.2.2.2.2.2.2.2.2.2.2.2.2.2.2.2.2.1 tt.2.2.2.2.2.2.2.2.2.2.2.2.2.2.2.2.2.2.2.2.2.2.1 tt.2.2.2.2.2.2.2.2.2.2.2.2.2.2.2.2.2.2.2.2.2.2.2.1 tt.2.2.2.2.2.2.2.2.2.2.2.2.2.2.2.2.2.2.2.2.2.2.2.2.1 tt.2.2.2.2.2.2.2.2.2.2.2.2.2.2.2.2.2.2.2.2.2.2.2.2.2.1 tt.2.2.2.2.2.2.2.2.2.2.2.2.2.2.2.2.2.2.2.2.2.2.2.2.2.2.1 tt.2.2.2.2.2.2.2.2.2.2.2.2.2.2.2.2.2.2.2.2.2.2.2.2.2.2.2.1 tt.2.2.2.2.2.2.2.2.2.2.2.2.2.2.2.2.2.2.2.2.2.2.2.2.2.2.2.2.1 tt.2.2.2.2.2.2.2.2.2.2.2.2.2.2.2.2.2.2.2.2.2.2.2.2.2.2.2.2.2.1 tt.2.2.2.2.2.2.2.2.2.2.2.2.2.2.2.2.2.2.2.2.2.2.2.2.2.2.2.2.2.2 huX huY huSize huBestX huBestY S Rw)) 2 12 (xsF X) := by
  refine xs_xmet RX10 (by decide) rfl (Nat.le_of_ble_eq_true rfl) ?_
  intro p e s m below meth c ls H locs C hout hP hD hS hr hlk hl
  have hx := C.1
  have hb := C.2.1
  have hl : lv_has ls 4 [(0, .ref (xsA X 0)), (1, .int a0), (2, .int a1)] := hl
  obtain ⟨Qq, hQq⟩ : ∃ Qq, Qq = xsXi X (fun r u => ∃ tt, out = .inl tt ∧ r = tt.1 ∧ u = wK X kIsKept tt.2.1 hiLatest hiSize scBytes scTold scLength scFault scAt scNumber tt.2.2.1 tt.2.2.2.1 tt.2.2.2.2.1 tt.2.2.2.2.2.1 tt.2.2.2.2.2.2.1 tt.2.2.2.2.2.2.2.1 tt.2.2.2.2.2.2.2.2.1 tt.2.2.2.2.2.2.2.2.2.1 tt.2.2.2.2.2.2.2.2.2.2.1 tt.2.2.2.2.2.2.2.2.2.2.2.1 tt.2.2.2.2.2.2.2.2.2.2.2.2.1 tt.2.2.2.2.2.2.2.2.2.2.2.2.2.1 tt.2.2.2.2.2.2.2.2.2.2.2.2.2.2.1 tt.2.2.2.2.2.2.2.2.2.2.2.2.2.2.2.1 tt.2.2.2.2.2.2.2.2.2.2.2.2.2.2.2.2.1 tt.2.2.2.2.2.2.2.2.2.2.2.2.2.2.2.2.2.1 tt.2.2.2.2.2.2.2.2.2.2.2.2.2.2.2.2.2.2.1 tt.2.2.2.2.2.2.2.2.2.2.2.2.2.2.2.2.2.2.2.1 tt.2.2.2.2.2.2.2.2.2.2.2.2.2.2.2.2.2.2.2.2.1 tt.2.2.2.2.2.2.2.2.2.2.2.2.2.2.2.2.2.2.2.2.2.1 tt.2.2.2.2.2.2.2.2.2.2.2.2.2.2.2.2.2.2.2.2.2.2.1 tt.2.2.2.2.2.2.2.2.2.2.2.2.2.2.2.2.2.2.2.2.2.2.2.1 tt.2.2.2.2.2.2.2.2.2.2.2.2.2.2.2.2.2.2.2.2.2.2.2.2.1 tt.2.2.2.2.2.2.2.2.2.2.2.2.2.2.2.2.2.2.2.2.2.2.2.2.2.1 tt.2.2.2.2.2.2.2.2.2.2.2.2.2.2.2.2.2.2.2.2.2.2.2.2.2.2.1 tt.2.2.2.2.2.2.2.2.2.2.2.2.2.2.2.2.2.2.2.2.2.2.2.2.2.2.2.1 tt.2.2.2.2.2.2.2.2.2.2.2.2.2.2.2.2.2.2.2.2.2.2.2.2.2.2.2.2.1 tt.2.2.2.2.2.2.2.2.2.2.2.2.2.2.2.2.2.2.2.2.2.2.2.2.2.2.2.2.2.1 tt.2.2.2.2.2.2.2.2.2.2.2.2.2.2.2.2.2.2.2.2.2.2.2.2.2.2.2.2.2.2.1 tt.2.2.2.2.2.2.2.2.2.2.2.2.2.2.2.2.2.2.2.2.2.2.2.2.2.2.2.2.2.2.2 huX huY huSize huBestX huBestY S Rw) := ⟨_, rfl⟩
  rw [← hQq]
  obtain ⟨Xq, hXq⟩ : ∃ Xq, Xq = xsXC X (fun n u => ∃ tt, out = .inr (n, tt) ∧ u = wK X kIsKept tt.1 hiLatest hiSize scBytes scTold scLength scFault scAt scNumber tt.2.1 tt.2.2.1 tt.2.2.2.1 tt.2.2.2.2.1 tt.2.2.2.2.2.1 tt.2.2.2.2.2.2.1 tt.2.2.2.2.2.2.2.1 tt.2.2.2.2.2.2.2.2.1 tt.2.2.2.2.2.2.2.2.2.1 tt.2.2.2.2.2.2.2.2.2.2.1 tt.2.2.2.2.2.2.2.2.2.2.2.1 tt.2.2.2.2.2.2.2.2.2.2.2.2.1 tt.2.2.2.2.2.2.2.2.2.2.2.2.2.1 tt.2.2.2.2.2.2.2.2.2.2.2.2.2.2.1 tt.2.2.2.2.2.2.2.2.2.2.2.2.2.2.2.1 tt.2.2.2.2.2.2.2.2.2.2.2.2.2.2.2.2.1 tt.2.2.2.2.2.2.2.2.2.2.2.2.2.2.2.2.2.1 tt.2.2.2.2.2.2.2.2.2.2.2.2.2.2.2.2.2.2.1 tt.2.2.2.2.2.2.2.2.2.2.2.2.2.2.2.2.2.2.2.1 tt.2.2.2.2.2.2.2.2.2.2.2.2.2.2.2.2.2.2.2.2.1 tt.2.2.2.2.2.2.2.2.2.2.2.2.2.2.2.2.2.2.2.2.2.1 tt.2.2.2.2.2.2.2.2.2.2.2.2.2.2.2.2.2.2.2.2.2.2.1 tt.2.2.2.2.2.2.2.2.2.2.2.2.2.2.2.2.2.2.2.2.2.2.2.1 tt.2.2.2.2.2.2.2.2.2.2.2.2.2.2.2.2.2.2.2.2.2.2.2.2.1 tt.2.2.2.2.2.2.2.2.2.2.2.2.2.2.2.2.2.2.2.2.2.2.2.2.2.1 tt.2.2.2.2.2.2.2.2.2.2.2.2.2.2.2.2.2.2.2.2.2.2.2.2.2.2.1 tt.2.2.2.2.2.2.2.2.2.2.2.2.2.2.2.2.2.2.2.2.2.2.2.2.2.2.2.1 tt.2.2.2.2.2.2.2.2.2.2.2.2.2.2.2.2.2.2.2.2.2.2.2.2.2.2.2.2.1 tt.2.2.2.2.2.2.2.2.2.2.2.2.2.2.2.2.2.2.2.2.2.2.2.2.2.2.2.2.2.1 tt.2.2.2.2.2.2.2.2.2.2.2.2.2.2.2.2.2.2.2.2.2.2.2.2.2.2.2.2.2.2 huX huY huSize huBestX huBestY S Rw) := ⟨_, rfl⟩
  rw [← hXq]
  unfold fX10_road at hf
  refine lv_aload_n hx hb dX10_road_0 rfl (lv_at hl 0 rfl) ?_
  replace hf := xsBd_use hf
  obtain ⟨o1, h2, hf⟩ := hf
  refine xs_callr hS (xs_runV (As := []) C (mX10_drawn l hs_0 h2) w_535 w_537 w_2 w_105 w_538 hd_X10_drawn ⟨rfl, rfl, Nat.le_of_ble_eq_true rfl, Nat.le_of_ble_eq_true rfl, Nat.le_of_ble_eq_true rfl, Nat.le_of_ble_eq_true rfl⟩ hP hD hS lk_X10 rfl hl.1 rfl (Nat.le_of_ble_eq_true rfl) dX10_road_1) (fun H locs hP hD hS => ?_)
  refine xg_X10_129 C hP dX10_road_4 ?_
  refine lv_astore_n (lv' := [(3, .ref (xsA X 11)), (0, .ref (xsA X 0)), (1, .int a0), (2, .int a1)]) hx hb dX10_road_7 rfl hl (by decide) rfl (fun ls hl => ?_)
  refine lv_iload_n hx hb dX10_road_8 rfl (lv_at hl 2 rfl) ?_
  refine lv_aload_n hx hb dX10_road_9 rfl (lv_at hl 0 rfl) ?_
  refine xg_X10_158 C hP dX10_road_10 ?_
  replace hf := xsBd_use hf
  obtain ⟨o3, h4, hf⟩ := hf
  refine xs_xcallv hS (xs_xrunS (As := [.int a0, .int o1.2.2.2.2.2.2.2.2.2.2.2.2.2.2.2.2.2.2.2.2.2.2.2.1]) C (mX10_checkPlace l hst  h4) w_1022 w_1023 w_105 w_1024 hd_X10_checkPlace ⟨rfl, rfl, Nat.le_of_ble_eq_true rfl, Nat.le_of_ble_eq_true rfl, Nat.le_of_ble_eq_true rfl, Nat.le_of_ble_eq_true rfl⟩ hP hD hS hl.1 rfl (Nat.le_of_ble_eq_true rfl) dX10_road_13) (fun n u q H locs hpx hP hD hS hq => ?_) (fun u H locs hp hP hD hS => ?_)
  · obtain ⟨tx, e1, e2⟩ := hpx
    subst e1
    subst e2
    have ho := Option.some.inj hf
    subst ho
    rw [hXq]
    exact xs_xpass hlk hout ⟨_, rfl, rfl⟩ hP hD hS hq (Nat.le_of_ble_eq_true rfl) (Nat.le_of_ble_eq_true rfl)
  obtain ⟨v5, e1, e3⟩ := hp
  subst e1
  subst e3
  replace hf := xsTh_use hf
  refine W.widen (k := 1) (n := 6) (Nat.le_refl _) (Nat.le_refl _) ?_
  refine lv_iload_n hx hb dX10_road_16 rfl (lv_at hl 3 rfl) ?_
  refine lv_aload_n hx hb dX10_road_17 rfl (lv_at hl 0 rfl) ?_
  refine xg_X10_158 C hP dX10_road_18 ?_
  replace hf := xsBd_use hf
  obtain ⟨o6, h7, hf⟩ := hf
  refine xs_xcallv hS (xs_xrunS (As := [.int a1, .int o1.2.2.2.2.2.2.2.2.2.2.2.2.2.2.2.2.2.2.2.2.2.2.2.1]) C (mX10_checkPlace l hst  h7) w_1022 w_1023 w_105 w_1024 hd_X10_checkPlace ⟨rfl, rfl, Nat.le_of_ble_eq_true rfl, Nat.le_of_ble_eq_true rfl, Nat.le_of_ble_eq_true rfl, Nat.le_of_ble_eq_true rfl⟩ hP hD hS hl.1 rfl (Nat.le_of_ble_eq_true rfl) dX10_road_21) (fun n u q H locs hpx hP hD hS hq => ?_) (fun u H locs hp hP hD hS => ?_)
  · obtain ⟨tx, e1, e2⟩ := hpx
    subst e1
    subst e2
    have ho := Option.some.inj hf
    subst ho
    rw [hXq]
    exact xs_xpass hlk hout ⟨_, rfl, rfl⟩ hP hD hS hq (Nat.le_of_ble_eq_true rfl) (Nat.le_of_ble_eq_true rfl)
  obtain ⟨v8, e1, e3⟩ := hp
  subst e1
  subst e3
  replace hf := xsTh_use hf
  refine W.widen (k := 2) (n := 12) (Nat.le_refl _) (Nat.le_refl _) ?_
  refine lv_aload_n hx hb dX10_road_24 rfl (lv_at hl 1 rfl) ?_
  refine xg_X10_39 C hP dX10_road_25 ?_
  refine xg_X10_293 C hP dX10_road_28 ?_
  refine lv_aload_n hx hb dX10_road_31 rfl (lv_at hl 0 rfl) ?_
  refine lv_iload_n hx hb dX10_road_32 rfl (lv_at hl 2 rfl) ?_
  refine lv_iload_n hx hb dX10_road_33 rfl (lv_at hl 3 rfl) ?_
  replace hf := xsBd_use hf
  obtain ⟨o9, h10, hf⟩ := hf
  refine xs_calli hS (xs_runV (As := [.ref (xsA X 11), .int a0, .int a1]) C (mX2_distance l  h10) w_1212 w_1213 w_1214 w_113 w_1215 hd_X2_distance ⟨rfl, rfl, Nat.le_of_ble_eq_true rfl, Nat.le_of_ble_eq_true rfl, Nat.le_of_ble_eq_true rfl, Nat.le_of_ble_eq_true rfl⟩ hP hD hS lk_X2 rfl hl.1 rfl (Nat.le_of_ble_eq_true rfl) dX10_road_34) (fun H locs hP hD hS => ?_)
  have ho := Option.some.inj hf
  subst ho
  rw [hQq]
  exact xs_xiret C hr hlk ⟨_, rfl, rfl, rfl⟩ hP hD hS (Nat.le_of_ble_eq_true rfl) (Nat.le_of_ble_eq_true rfl) dX10_road_37
set_option maxRecDepth 100000 in
set_option maxHeartbeats 8000000 in
theorem mX10_tied (l : Launch) (hst : l.stackTraces = false) {X : xsX} {kIsKept kIsStale hiLatest hiSize scLength scFault scAt scNumber piSegmentsNow enKind enFromX enFromY enToX enToY tiMeetingPairs tiAlongPairs tiSize evSize evCrossings evSegmentsNow grEdges grQueued huSize huBestX huBestY : Int32} {scBytes scTold tiTouching tiLyingAlong evBundle evCrossingOf evEventOf evLeftEvent evRightEvent grDegree grFar grQueue huX huY : Nat → Int32} {enX enY enLower : Int64} {evX evY evLower : Nat → Int64} {S : Nat → xsV} {Rw : va_W} {g0Lx g0Ly g0Rx g0Ry g0Ti : Nat → Int32} {g0Sz : Int32} (hs_0 : S 0 = (g0Lx, g0Ly, g0Rx, g0Ry, g0Ti, g0Sz)) {a0 : Int32} {out : (Int32 × Int32 × Int32 × Int32 × Int64 × Int64 × Int64 × Int32 × Int32 × Int32 × Int32 × (Nat → Int32) × (Nat → Int32) × Int32 × Int32 × Int32 × (Nat → Int64) × (Nat → Int64) × (Nat → Int64) × (Nat → Int32) × (Nat → Int32) × (Nat → Int32) × (Nat → Int32) × (Nat → Int32) × Int32 × Int32 × Int32 × (Nat → Int32) × Int32) ⊕ (Nat × (Int32 × Int32 × Int32 × Int64 × Int64 × Int64 × Int32 × Int32 × Int32 × Int32 × (Nat → Int32) × (Nat → Int32) × Int32 × Int32 × Int32 × (Nat → Int64) × (Nat → Int64) × (Nat → Int64) × (Nat → Int32) × (Nat → Int32) × (Nat → Int32) × (Nat → Int32) × (Nat → Int32) × Int32 × Int32 × Int32 × (Nat → Int32) × Int32))} (hf : fX10_tied kIsStale piSegmentsNow enKind enX enY enLower enFromX enFromY enToX enToY tiTouching tiLyingAlong tiMeetingPairs tiAlongPairs tiSize evX evY evLower evBundle evCrossingOf evEventOf evLeftEvent evRightEvent evSize evCrossings evSegmentsNow grDegree grEdges g0Lx g0Ly g0Rx g0Ry g0Sz a0 = some out) : vx_Met l yX10_tied (xsWs yX10_tied cX10_tied 2 (some .int)) { frames := 8, cells := 1, slots := 6, locals := 153 } (xsP X (wK X kIsKept kIsStale hiLatest hiSize scBytes scTold scLength scFault scAt scNumber piSegmentsNow enKind enX enY enLower enFromX enFromY enToX enToY tiTouching tiLyingAlong tiMeetingPairs tiAlongPairs tiSize evX evY evLower evBundle evCrossingOf evEventOf evLeftEvent evRightEvent evSize evCrossings evSegmentsNow grDegree grEdges grFar grQueue grQueued huX huY huSize huBestX huBestY S Rw) [.ref (xsA X 0), .int a0]) (xsXi X (fun r u => ∃ tt, out = .inl tt ∧ r = tt.1 ∧ u = wK X kIsKept tt.2.1 hiLatest hiSize scBytes scTold scLength scFault scAt scNumber tt.2.2.1 tt.2.2.2.1 tt.2.2.2.2.1 tt.2.2.2.2.2.1 tt.2.2.2.2.2.2.1 tt.2.2.2.2.2.2.2.1 tt.2.2.2.2.2.2.2.2.1 tt.2.2.2.2.2.2.2.2.2.1 tt.2.2.2.2.2.2.2.2.2.2.1 tt.2.2.2.2.2.2.2.2.2.2.2.1 tt.2.2.2.2.2.2.2.2.2.2.2.2.1 tt.2.2.2.2.2.2.2.2.2.2.2.2.2.1 tt.2.2.2.2.2.2.2.2.2.2.2.2.2.2.1 tt.2.2.2.2.2.2.2.2.2.2.2.2.2.2.2.1 tt.2.2.2.2.2.2.2.2.2.2.2.2.2.2.2.2.1 tt.2.2.2.2.2.2.2.2.2.2.2.2.2.2.2.2.2.1 tt.2.2.2.2.2.2.2.2.2.2.2.2.2.2.2.2.2.2.1 tt.2.2.2.2.2.2.2.2.2.2.2.2.2.2.2.2.2.2.2.1 tt.2.2.2.2.2.2.2.2.2.2.2.2.2.2.2.2.2.2.2.2.1 tt.2.2.2.2.2.2.2.2.2.2.2.2.2.2.2.2.2.2.2.2.2.1 tt.2.2.2.2.2.2.2.2.2.2.2.2.2.2.2.2.2.2.2.2.2.2.1 tt.2.2.2.2.2.2.2.2.2.2.2.2.2.2.2.2.2.2.2.2.2.2.2.1 tt.2.2.2.2.2.2.2.2.2.2.2.2.2.2.2.2.2.2.2.2.2.2.2.2.1 tt.2.2.2.2.2.2.2.2.2.2.2.2.2.2.2.2.2.2.2.2.2.2.2.2.2.1 tt.2.2.2.2.2.2.2.2.2.2.2.2.2.2.2.2.2.2.2.2.2.2.2.2.2.2.1 tt.2.2.2.2.2.2.2.2.2.2.2.2.2.2.2.2.2.2.2.2.2.2.2.2.2.2.2.1 tt.2.2.2.2.2.2.2.2.2.2.2.2.2.2.2.2.2.2.2.2.2.2.2.2.2.2.2.2 grFar grQueue grQueued huX huY huSize huBestX huBestY S Rw)) (xsXC X (fun n u => ∃ tt, out = .inr (n, tt) ∧ u = wK X kIsKept tt.1 hiLatest hiSize scBytes scTold scLength scFault scAt scNumber tt.2.1 tt.2.2.1 tt.2.2.2.1 tt.2.2.2.2.1 tt.2.2.2.2.2.1 tt.2.2.2.2.2.2.1 tt.2.2.2.2.2.2.2.1 tt.2.2.2.2.2.2.2.2.1 tt.2.2.2.2.2.2.2.2.2.1 tt.2.2.2.2.2.2.2.2.2.2.1 tt.2.2.2.2.2.2.2.2.2.2.2.1 tt.2.2.2.2.2.2.2.2.2.2.2.2.1 tt.2.2.2.2.2.2.2.2.2.2.2.2.2.1 tt.2.2.2.2.2.2.2.2.2.2.2.2.2.2.1 tt.2.2.2.2.2.2.2.2.2.2.2.2.2.2.2.1 tt.2.2.2.2.2.2.2.2.2.2.2.2.2.2.2.2.1 tt.2.2.2.2.2.2.2.2.2.2.2.2.2.2.2.2.2.1 tt.2.2.2.2.2.2.2.2.2.2.2.2.2.2.2.2.2.2.1 tt.2.2.2.2.2.2.2.2.2.2.2.2.2.2.2.2.2.2.2.1 tt.2.2.2.2.2.2.2.2.2.2.2.2.2.2.2.2.2.2.2.2.1 tt.2.2.2.2.2.2.2.2.2.2.2.2.2.2.2.2.2.2.2.2.2.1 tt.2.2.2.2.2.2.2.2.2.2.2.2.2.2.2.2.2.2.2.2.2.2.1 tt.2.2.2.2.2.2.2.2.2.2.2.2.2.2.2.2.2.2.2.2.2.2.2.1 tt.2.2.2.2.2.2.2.2.2.2.2.2.2.2.2.2.2.2.2.2.2.2.2.2.1 tt.2.2.2.2.2.2.2.2.2.2.2.2.2.2.2.2.2.2.2.2.2.2.2.2.2.1 tt.2.2.2.2.2.2.2.2.2.2.2.2.2.2.2.2.2.2.2.2.2.2.2.2.2.2.1 tt.2.2.2.2.2.2.2.2.2.2.2.2.2.2.2.2.2.2.2.2.2.2.2.2.2.2.2 grFar grQueue grQueued huX huY huSize huBestX huBestY S Rw)) 1 6 (xsF X) := by
  refine xs_xmet RX10 (by decide) rfl (Nat.le_of_ble_eq_true rfl) ?_
  intro p e s m below meth c ls H locs C hout hP hD hS hr hlk hl
  have hx := C.1
  have hb := C.2.1
  have hl : lv_has ls 2 [(0, .ref (xsA X 0)), (1, .int a0)] := hl
  obtain ⟨Qq, hQq⟩ : ∃ Qq, Qq = xsXi X (fun r u => ∃ tt, out = .inl tt ∧ r = tt.1 ∧ u = wK X kIsKept tt.2.1 hiLatest hiSize scBytes scTold scLength scFault scAt scNumber tt.2.2.1 tt.2.2.2.1 tt.2.2.2.2.1 tt.2.2.2.2.2.1 tt.2.2.2.2.2.2.1 tt.2.2.2.2.2.2.2.1 tt.2.2.2.2.2.2.2.2.1 tt.2.2.2.2.2.2.2.2.2.1 tt.2.2.2.2.2.2.2.2.2.2.1 tt.2.2.2.2.2.2.2.2.2.2.2.1 tt.2.2.2.2.2.2.2.2.2.2.2.2.1 tt.2.2.2.2.2.2.2.2.2.2.2.2.2.1 tt.2.2.2.2.2.2.2.2.2.2.2.2.2.2.1 tt.2.2.2.2.2.2.2.2.2.2.2.2.2.2.2.1 tt.2.2.2.2.2.2.2.2.2.2.2.2.2.2.2.2.1 tt.2.2.2.2.2.2.2.2.2.2.2.2.2.2.2.2.2.1 tt.2.2.2.2.2.2.2.2.2.2.2.2.2.2.2.2.2.2.1 tt.2.2.2.2.2.2.2.2.2.2.2.2.2.2.2.2.2.2.2.1 tt.2.2.2.2.2.2.2.2.2.2.2.2.2.2.2.2.2.2.2.2.1 tt.2.2.2.2.2.2.2.2.2.2.2.2.2.2.2.2.2.2.2.2.2.1 tt.2.2.2.2.2.2.2.2.2.2.2.2.2.2.2.2.2.2.2.2.2.2.1 tt.2.2.2.2.2.2.2.2.2.2.2.2.2.2.2.2.2.2.2.2.2.2.2.1 tt.2.2.2.2.2.2.2.2.2.2.2.2.2.2.2.2.2.2.2.2.2.2.2.2.1 tt.2.2.2.2.2.2.2.2.2.2.2.2.2.2.2.2.2.2.2.2.2.2.2.2.2.1 tt.2.2.2.2.2.2.2.2.2.2.2.2.2.2.2.2.2.2.2.2.2.2.2.2.2.2.1 tt.2.2.2.2.2.2.2.2.2.2.2.2.2.2.2.2.2.2.2.2.2.2.2.2.2.2.2.1 tt.2.2.2.2.2.2.2.2.2.2.2.2.2.2.2.2.2.2.2.2.2.2.2.2.2.2.2.2 grFar grQueue grQueued huX huY huSize huBestX huBestY S Rw) := ⟨_, rfl⟩
  rw [← hQq]
  obtain ⟨Xq, hXq⟩ : ∃ Xq, Xq = xsXC X (fun n u => ∃ tt, out = .inr (n, tt) ∧ u = wK X kIsKept tt.1 hiLatest hiSize scBytes scTold scLength scFault scAt scNumber tt.2.1 tt.2.2.1 tt.2.2.2.1 tt.2.2.2.2.1 tt.2.2.2.2.2.1 tt.2.2.2.2.2.2.1 tt.2.2.2.2.2.2.2.1 tt.2.2.2.2.2.2.2.2.1 tt.2.2.2.2.2.2.2.2.2.1 tt.2.2.2.2.2.2.2.2.2.2.1 tt.2.2.2.2.2.2.2.2.2.2.2.1 tt.2.2.2.2.2.2.2.2.2.2.2.2.1 tt.2.2.2.2.2.2.2.2.2.2.2.2.2.1 tt.2.2.2.2.2.2.2.2.2.2.2.2.2.2.1 tt.2.2.2.2.2.2.2.2.2.2.2.2.2.2.2.1 tt.2.2.2.2.2.2.2.2.2.2.2.2.2.2.2.2.1 tt.2.2.2.2.2.2.2.2.2.2.2.2.2.2.2.2.2.1 tt.2.2.2.2.2.2.2.2.2.2.2.2.2.2.2.2.2.2.1 tt.2.2.2.2.2.2.2.2.2.2.2.2.2.2.2.2.2.2.2.1 tt.2.2.2.2.2.2.2.2.2.2.2.2.2.2.2.2.2.2.2.2.1 tt.2.2.2.2.2.2.2.2.2.2.2.2.2.2.2.2.2.2.2.2.2.1 tt.2.2.2.2.2.2.2.2.2.2.2.2.2.2.2.2.2.2.2.2.2.2.1 tt.2.2.2.2.2.2.2.2.2.2.2.2.2.2.2.2.2.2.2.2.2.2.2.1 tt.2.2.2.2.2.2.2.2.2.2.2.2.2.2.2.2.2.2.2.2.2.2.2.2.1 tt.2.2.2.2.2.2.2.2.2.2.2.2.2.2.2.2.2.2.2.2.2.2.2.2.2.1 tt.2.2.2.2.2.2.2.2.2.2.2.2.2.2.2.2.2.2.2.2.2.2.2.2.2.2.1 tt.2.2.2.2.2.2.2.2.2.2.2.2.2.2.2.2.2.2.2.2.2.2.2.2.2.2.2 grFar grQueue grQueued huX huY huSize huBestX huBestY S Rw) := ⟨_, rfl⟩
  rw [← hXq]
  unfold fX10_tied at hf
  refine lv_aload_n hx hb dX10_tied_0 rfl (lv_at hl 0 rfl) ?_
  refine lv_iload_n hx hb dX10_tied_1 rfl (lv_at hl 1 rfl) ?_
  replace hf := xsBd_use hf
  obtain ⟨o1, h2, hf⟩ := hf
  refine xs_xcallv hS (xs_xrunV (As := [.int a0]) C (mX10_checkSegment l hst hs_0 h2) w_1018 w_1020 w_28 w_105 w_1021 hd_X10_checkSegment ⟨rfl, rfl, Nat.le_of_ble_eq_true rfl, Nat.le_of_ble_eq_true rfl, Nat.le_of_ble_eq_true rfl, Nat.le_of_ble_eq_true rfl⟩ hP hD hS lk_X10 rfl hl.1 rfl (Nat.le_of_ble_eq_true rfl) dX10_tied_2) (fun n u q H locs hpx hP hD hS hq => ?_) (fun u H locs hp hP hD hS => ?_)
  · obtain ⟨tx, e1, e2⟩ := hpx
    subst e1
    subst e2
    have ho := Option.some.inj hf
    subst ho
    rw [hXq]
    exact xs_xpass hlk hout ⟨_, rfl, rfl⟩ hP hD hS hq (Nat.le_of_ble_eq_true rfl) (Nat.le_of_ble_eq_true rfl)
  obtain ⟨v3, e1, e3⟩ := hp
  subst e1
  subst e3
  replace hf := xsTh_use hf
  refine W.widen (k := 1) (n := 6) (Nat.le_refl _) (Nat.le_refl _) ?_
  refine lv_aload_n hx hb dX10_tied_5 rfl (lv_at hl 0 rfl) ?_
  replace hf := xsBd_use hf
  obtain ⟨o4, h5, hf⟩ := hf
  refine xs_callr hS (xs_runV (As := []) C (mX10_drawn l hs_0 h5) w_535 w_537 w_2 w_105 w_538 hd_X10_drawn ⟨rfl, rfl, Nat.le_of_ble_eq_true rfl, Nat.le_of_ble_eq_true rfl, Nat.le_of_ble_eq_true rfl, Nat.le_of_ble_eq_true rfl⟩ hP hD hS lk_X10 rfl hl.1 rfl (Nat.le_of_ble_eq_true rfl) dX10_tied_6) (fun H locs hP hD hS => ?_)
  refine xg_X10_188 C hP dX10_tied_9 ?_
  refine xg_X10_325 C hP dX10_tied_12 ?_
  refine lv_iload_n hx hb dX10_tied_15 rfl (lv_at hl 1 rfl) ?_
  replace hf := xsCk_use hf
  obtain ⟨h6, hf⟩ := hf
  refine xl_tiTouching C hP h6 dX10_tied_16 ?_
  have ho := Option.some.inj hf
  subst ho
  rw [hQq]
  exact xs_xiret C hr hlk ⟨_, rfl, rfl, rfl⟩ hP hD hS (Nat.le_of_ble_eq_true rfl) (Nat.le_of_ble_eq_true rfl) dX10_tied_17
set_option maxRecDepth 100000 in
set_option maxHeartbeats 8000000 in
theorem mX10_steps (l : Launch) (hst : l.stackTraces = false) {X : xsX} {kIsKept kIsStale hiLatest hiSize scLength scFault scAt scNumber piSegmentsNow enKind enFromX enFromY enToX enToY tiMeetingPairs tiAlongPairs tiSize evSize evCrossings evSegmentsNow grEdges grQueued huSize huBestX huBestY : Int32} {scBytes scTold tiTouching tiLyingAlong evBundle evCrossingOf evEventOf evLeftEvent evRightEvent grDegree grFar grQueue huX huY : Nat → Int32} {enX enY enLower : Int64} {evX evY evLower : Nat → Int64} {S : Nat → xsV} {Rw : va_W} {g0Lx g0Ly g0Rx g0Ry g0Ti : Nat → Int32} {g0Sz : Int32} (hs_0 : S 0 = (g0Lx, g0Ly, g0Rx, g0Ry, g0Ti, g0Sz)) {a0 : Int32} {a1 : Int32} {out : (Int32 × Int32 × Int32 × Int32 × Int64 × Int64 × Int64 × Int32 × Int32 × Int32 × Int32 × (Nat → Int32) × (Nat → Int32) × Int32 × Int32 × Int32 × (Nat → Int64) × (Nat → Int64) × (Nat → Int64) × (Nat → Int32) × (Nat → Int32) × (Nat → Int32) × (Nat → Int32) × (Nat → Int32) × Int32 × Int32 × Int32 × (Nat → Int32) × Int32) ⊕ (Nat × (Int32 × Int32 × Int32 × Int64 × Int64 × Int64 × Int32 × Int32 × Int32 × Int32 × (Nat → Int32) × (Nat → Int32) × Int32 × Int32 × Int32 × (Nat → Int64) × (Nat → Int64) × (Nat → Int64) × (Nat → Int32) × (Nat → Int32) × (Nat → Int32) × (Nat → Int32) × (Nat → Int32) × Int32 × Int32 × Int32 × (Nat → Int32) × Int32))} (hf : fX10_steps kIsStale piSegmentsNow enKind enX enY enLower enFromX enFromY enToX enToY tiTouching tiLyingAlong tiMeetingPairs tiAlongPairs tiSize evX evY evLower evBundle evCrossingOf evEventOf evLeftEvent evRightEvent evSize evCrossings evSegmentsNow grDegree grEdges g0Lx g0Ly g0Rx g0Ry g0Sz a0 a1 = some out) : vx_Met l yX10_steps (xsWs yX10_steps cX10_steps 3 (some .int)) { frames := 8, cells := 2, slots := 12, locals := 153 } (xsP X (wK X kIsKept kIsStale hiLatest hiSize scBytes scTold scLength scFault scAt scNumber piSegmentsNow enKind enX enY enLower enFromX enFromY enToX enToY tiTouching tiLyingAlong tiMeetingPairs tiAlongPairs tiSize evX evY evLower evBundle evCrossingOf evEventOf evLeftEvent evRightEvent evSize evCrossings evSegmentsNow grDegree grEdges grFar grQueue grQueued huX huY huSize huBestX huBestY S Rw) [.ref (xsA X 0), .int a0, .int a1]) (xsXi X (fun r u => ∃ tt, out = .inl tt ∧ r = tt.1 ∧ u = wK X kIsKept tt.2.1 hiLatest hiSize scBytes scTold scLength scFault scAt scNumber tt.2.2.1 tt.2.2.2.1 tt.2.2.2.2.1 tt.2.2.2.2.2.1 tt.2.2.2.2.2.2.1 tt.2.2.2.2.2.2.2.1 tt.2.2.2.2.2.2.2.2.1 tt.2.2.2.2.2.2.2.2.2.1 tt.2.2.2.2.2.2.2.2.2.2.1 tt.2.2.2.2.2.2.2.2.2.2.2.1 tt.2.2.2.2.2.2.2.2.2.2.2.2.1 tt.2.2.2.2.2.2.2.2.2.2.2.2.2.1 tt.2.2.2.2.2.2.2.2.2.2.2.2.2.2.1 tt.2.2.2.2.2.2.2.2.2.2.2.2.2.2.2.1 tt.2.2.2.2.2.2.2.2.2.2.2.2.2.2.2.2.1 tt.2.2.2.2.2.2.2.2.2.2.2.2.2.2.2.2.2.1 tt.2.2.2.2.2.2.2.2.2.2.2.2.2.2.2.2.2.2.1 tt.2.2.2.2.2.2.2.2.2.2.2.2.2.2.2.2.2.2.2.1 tt.2.2.2.2.2.2.2.2.2.2.2.2.2.2.2.2.2.2.2.2.1 tt.2.2.2.2.2.2.2.2.2.2.2.2.2.2.2.2.2.2.2.2.2.1 tt.2.2.2.2.2.2.2.2.2.2.2.2.2.2.2.2.2.2.2.2.2.2.1 tt.2.2.2.2.2.2.2.2.2.2.2.2.2.2.2.2.2.2.2.2.2.2.2.1 tt.2.2.2.2.2.2.2.2.2.2.2.2.2.2.2.2.2.2.2.2.2.2.2.2.1 tt.2.2.2.2.2.2.2.2.2.2.2.2.2.2.2.2.2.2.2.2.2.2.2.2.2.1 tt.2.2.2.2.2.2.2.2.2.2.2.2.2.2.2.2.2.2.2.2.2.2.2.2.2.2.1 tt.2.2.2.2.2.2.2.2.2.2.2.2.2.2.2.2.2.2.2.2.2.2.2.2.2.2.2.1 tt.2.2.2.2.2.2.2.2.2.2.2.2.2.2.2.2.2.2.2.2.2.2.2.2.2.2.2.2 grFar grQueue grQueued huX huY huSize huBestX huBestY S Rw)) (xsXC X (fun n u => ∃ tt, out = .inr (n, tt) ∧ u = wK X kIsKept tt.1 hiLatest hiSize scBytes scTold scLength scFault scAt scNumber tt.2.1 tt.2.2.1 tt.2.2.2.1 tt.2.2.2.2.1 tt.2.2.2.2.2.1 tt.2.2.2.2.2.2.1 tt.2.2.2.2.2.2.2.1 tt.2.2.2.2.2.2.2.2.1 tt.2.2.2.2.2.2.2.2.2.1 tt.2.2.2.2.2.2.2.2.2.2.1 tt.2.2.2.2.2.2.2.2.2.2.2.1 tt.2.2.2.2.2.2.2.2.2.2.2.2.1 tt.2.2.2.2.2.2.2.2.2.2.2.2.2.1 tt.2.2.2.2.2.2.2.2.2.2.2.2.2.2.1 tt.2.2.2.2.2.2.2.2.2.2.2.2.2.2.2.1 tt.2.2.2.2.2.2.2.2.2.2.2.2.2.2.2.2.1 tt.2.2.2.2.2.2.2.2.2.2.2.2.2.2.2.2.2.1 tt.2.2.2.2.2.2.2.2.2.2.2.2.2.2.2.2.2.2.1 tt.2.2.2.2.2.2.2.2.2.2.2.2.2.2.2.2.2.2.2.1 tt.2.2.2.2.2.2.2.2.2.2.2.2.2.2.2.2.2.2.2.2.1 tt.2.2.2.2.2.2.2.2.2.2.2.2.2.2.2.2.2.2.2.2.2.1 tt.2.2.2.2.2.2.2.2.2.2.2.2.2.2.2.2.2.2.2.2.2.2.1 tt.2.2.2.2.2.2.2.2.2.2.2.2.2.2.2.2.2.2.2.2.2.2.2.1 tt.2.2.2.2.2.2.2.2.2.2.2.2.2.2.2.2.2.2.2.2.2.2.2.2.1 tt.2.2.2.2.2.2.2.2.2.2.2.2.2.2.2.2.2.2.2.2.2.2.2.2.2.1 tt.2.2.2.2.2.2.2.2.2.2.2.2.2.2.2.2.2.2.2.2.2.2.2.2.2.2.1 tt.2.2.2.2.2.2.2.2.2.2.2.2.2.2.2.2.2.2.2.2.2.2.2.2.2.2.2 grFar grQueue grQueued huX huY huSize huBestX huBestY S Rw)) 2 12 (xsF X) := by
  refine xs_xmet RX10 (by decide) rfl (Nat.le_of_ble_eq_true rfl) ?_
  intro p e s m below meth c ls H locs C hout hP hD hS hr hlk hl
  have hx := C.1
  have hb := C.2.1
  have hl : lv_has ls 3 [(0, .ref (xsA X 0)), (1, .int a0), (2, .int a1)] := hl
  obtain ⟨Qq, hQq⟩ : ∃ Qq, Qq = xsXi X (fun r u => ∃ tt, out = .inl tt ∧ r = tt.1 ∧ u = wK X kIsKept tt.2.1 hiLatest hiSize scBytes scTold scLength scFault scAt scNumber tt.2.2.1 tt.2.2.2.1 tt.2.2.2.2.1 tt.2.2.2.2.2.1 tt.2.2.2.2.2.2.1 tt.2.2.2.2.2.2.2.1 tt.2.2.2.2.2.2.2.2.1 tt.2.2.2.2.2.2.2.2.2.1 tt.2.2.2.2.2.2.2.2.2.2.1 tt.2.2.2.2.2.2.2.2.2.2.2.1 tt.2.2.2.2.2.2.2.2.2.2.2.2.1 tt.2.2.2.2.2.2.2.2.2.2.2.2.2.1 tt.2.2.2.2.2.2.2.2.2.2.2.2.2.2.1 tt.2.2.2.2.2.2.2.2.2.2.2.2.2.2.2.1 tt.2.2.2.2.2.2.2.2.2.2.2.2.2.2.2.2.1 tt.2.2.2.2.2.2.2.2.2.2.2.2.2.2.2.2.2.1 tt.2.2.2.2.2.2.2.2.2.2.2.2.2.2.2.2.2.2.1 tt.2.2.2.2.2.2.2.2.2.2.2.2.2.2.2.2.2.2.2.1 tt.2.2.2.2.2.2.2.2.2.2.2.2.2.2.2.2.2.2.2.2.1 tt.2.2.2.2.2.2.2.2.2.2.2.2.2.2.2.2.2.2.2.2.2.1 tt.2.2.2.2.2.2.2.2.2.2.2.2.2.2.2.2.2.2.2.2.2.2.1 tt.2.2.2.2.2.2.2.2.2.2.2.2.2.2.2.2.2.2.2.2.2.2.2.1 tt.2.2.2.2.2.2.2.2.2.2.2.2.2.2.2.2.2.2.2.2.2.2.2.2.1 tt.2.2.2.2.2.2.2.2.2.2.2.2.2.2.2.2.2.2.2.2.2.2.2.2.2.1 tt.2.2.2.2.2.2.2.2.2.2.2.2.2.2.2.2.2.2.2.2.2.2.2.2.2.2.1 tt.2.2.2.2.2.2.2.2.2.2.2.2.2.2.2.2.2.2.2.2.2.2.2.2.2.2.2.1 tt.2.2.2.2.2.2.2.2.2.2.2.2.2.2.2.2.2.2.2.2.2.2.2.2.2.2.2.2 grFar grQueue grQueued huX huY huSize huBestX huBestY S Rw) := ⟨_, rfl⟩
  rw [← hQq]
  obtain ⟨Xq, hXq⟩ : ∃ Xq, Xq = xsXC X (fun n u => ∃ tt, out = .inr (n, tt) ∧ u = wK X kIsKept tt.1 hiLatest hiSize scBytes scTold scLength scFault scAt scNumber tt.2.1 tt.2.2.1 tt.2.2.2.1 tt.2.2.2.2.1 tt.2.2.2.2.2.1 tt.2.2.2.2.2.2.1 tt.2.2.2.2.2.2.2.1 tt.2.2.2.2.2.2.2.2.1 tt.2.2.2.2.2.2.2.2.2.1 tt.2.2.2.2.2.2.2.2.2.2.1 tt.2.2.2.2.2.2.2.2.2.2.2.1 tt.2.2.2.2.2.2.2.2.2.2.2.2.1 tt.2.2.2.2.2.2.2.2.2.2.2.2.2.1 tt.2.2.2.2.2.2.2.2.2.2.2.2.2.2.1 tt.2.2.2.2.2.2.2.2.2.2.2.2.2.2.2.1 tt.2.2.2.2.2.2.2.2.2.2.2.2.2.2.2.2.1 tt.2.2.2.2.2.2.2.2.2.2.2.2.2.2.2.2.2.1 tt.2.2.2.2.2.2.2.2.2.2.2.2.2.2.2.2.2.2.1 tt.2.2.2.2.2.2.2.2.2.2.2.2.2.2.2.2.2.2.2.1 tt.2.2.2.2.2.2.2.2.2.2.2.2.2.2.2.2.2.2.2.2.1 tt.2.2.2.2.2.2.2.2.2.2.2.2.2.2.2.2.2.2.2.2.2.1 tt.2.2.2.2.2.2.2.2.2.2.2.2.2.2.2.2.2.2.2.2.2.2.1 tt.2.2.2.2.2.2.2.2.2.2.2.2.2.2.2.2.2.2.2.2.2.2.2.1 tt.2.2.2.2.2.2.2.2.2.2.2.2.2.2.2.2.2.2.2.2.2.2.2.2.1 tt.2.2.2.2.2.2.2.2.2.2.2.2.2.2.2.2.2.2.2.2.2.2.2.2.2.1 tt.2.2.2.2.2.2.2.2.2.2.2.2.2.2.2.2.2.2.2.2.2.2.2.2.2.2.1 tt.2.2.2.2.2.2.2.2.2.2.2.2.2.2.2.2.2.2.2.2.2.2.2.2.2.2.2 grFar grQueue grQueued huX huY huSize huBestX huBestY S Rw) := ⟨_, rfl⟩
  rw [← hXq]
  unfold fX10_steps at hf
  refine lv_aload_n hx hb dX10_steps_0 rfl (lv_at hl 0 rfl) ?_
  refine lv_iload_n hx hb dX10_steps_1 rfl (lv_at hl 1 rfl) ?_
  replace hf := xsBd_use hf
  obtain ⟨o1, h2, hf⟩ := hf
  refine xs_xcallv hS (xs_xrunV (As := [.int a0]) C (mX10_checkSegment l hst hs_0 h2) w_1018 w_1020 w_28 w_105 w_1021 hd_X10_checkSegment ⟨rfl, rfl, Nat.le_of_ble_eq_true rfl, Nat.le_of_ble_eq_true rfl, Nat.le_of_ble_eq_true rfl, Nat.le_of_ble_eq_true rfl⟩ hP hD hS lk_X10 rfl hl.1 rfl (Nat.le_of_ble_eq_true rfl) dX10_steps_2) (fun n u q H locs hpx hP hD hS hq => ?_) (fun u H locs hp hP hD hS => ?_)
  · obtain ⟨tx, e1, e2⟩ := hpx
    subst e1
    subst e2
    have ho := Option.some.inj hf
    subst ho
    rw [hXq]
    exact xs_xpass hlk hout ⟨_, rfl, rfl⟩ hP hD hS hq (Nat.le_of_ble_eq_true rfl) (Nat.le_of_ble_eq_true rfl)
  obtain ⟨v3, e1, e3⟩ := hp
  subst e1
  subst e3
  replace hf := xsTh_use hf
  refine W.widen (k := 1) (n := 6) (Nat.le_refl _) (Nat.le_refl _) ?_
  refine lv_aload_n hx hb dX10_steps_5 rfl (lv_at hl 0 rfl) ?_
  refine lv_iload_n hx hb dX10_steps_6 rfl (lv_at hl 2 rfl) ?_
  replace hf := xsBd_use hf
  obtain ⟨o4, h5, hf⟩ := hf
  refine xs_xcallv hS (xs_xrunV (As := [.int a1]) C (mX10_checkSegment l hst hs_0 h5) w_1018 w_1020 w_28 w_105 w_1021 hd_X10_checkSegment ⟨rfl, rfl, Nat.le_of_ble_eq_true rfl, Nat.le_of_ble_eq_true rfl, Nat.le_of_ble_eq_true rfl, Nat.le_of_ble_eq_true rfl⟩ hP hD hS lk_X10 rfl hl.1 rfl (Nat.le_of_ble_eq_true rfl) dX10_steps_7) (fun n u q H locs hpx hP hD hS hq => ?_) (fun u H locs hp hP hD hS => ?_)
  · obtain ⟨tx, e1, e2⟩ := hpx
    subst e1
    subst e2
    have ho := Option.some.inj hf
    subst ho
    rw [hXq]
    exact xs_xpass hlk hout ⟨_, rfl, rfl⟩ hP hD hS hq (Nat.le_of_ble_eq_true rfl) (Nat.le_of_ble_eq_true rfl)
  obtain ⟨v6, e1, e3⟩ := hp
  subst e1
  subst e3
  replace hf := xsTh_use hf
  refine W.widen (k := 2) (n := 12) (Nat.le_refl _) (Nat.le_refl _) ?_
  refine lv_aload_n hx hb dX10_steps_10 rfl (lv_at hl 0 rfl) ?_
  replace hf := xsBd_use hf
  obtain ⟨o7, h8, hf⟩ := hf
  refine xs_callr hS (xs_runV (As := []) C (mX10_drawn l hs_0 h8) w_535 w_537 w_2 w_105 w_538 hd_X10_drawn ⟨rfl, rfl, Nat.le_of_ble_eq_true rfl, Nat.le_of_ble_eq_true rfl, Nat.le_of_ble_eq_true rfl, Nat.le_of_ble_eq_true rfl⟩ hP hD hS lk_X10 rfl hl.1 rfl (Nat.le_of_ble_eq_true rfl) dX10_steps_11) (fun H locs hP hD hS => ?_)
  refine xg_X10_188 C hP dX10_steps_14 ?_
  refine lv_iload_n hx hb dX10_steps_17 rfl (lv_at hl 1 rfl) ?_
  refine lv_iload_n hx hb dX10_steps_18 rfl (lv_at hl 2 rfl) ?_
  replace hf := xsBd_use hf
  obtain ⟨o9, h10, hf⟩ := hf
  refine xs_calli hS (xs_runV (As := [.int a0, .int a1]) C (mX9_distance l  h10) w_1238 w_1239 w_1240 w_111 w_1241 hd_X9_distance ⟨rfl, rfl, Nat.le_of_ble_eq_true rfl, Nat.le_of_ble_eq_true rfl, Nat.le_of_ble_eq_true rfl, Nat.le_of_ble_eq_true rfl⟩ hP hD hS lk_X9 rfl hl.1 rfl (Nat.le_of_ble_eq_true rfl) dX10_steps_19) (fun H locs hP hD hS => ?_)
  have ho := Option.some.inj hf
  subst ho
  rw [hQq]
  exact xs_xiret C hr hlk ⟨_, rfl, rfl, rfl⟩ hP hD hS (Nat.le_of_ble_eq_true rfl) (Nat.le_of_ble_eq_true rfl) dX10_steps_22
set_option maxRecDepth 100000 in
set_option maxHeartbeats 8000000 in
theorem mX10_hull (l : Launch) (hst : l.stackTraces = false) {X : xsX} {kIsKept kIsStale hiLatest hiSize scLength scFault scAt scNumber piSegmentsNow enKind enFromX enFromY enToX enToY tiMeetingPairs tiAlongPairs tiSize evSize evCrossings evSegmentsNow grEdges grQueued huSize huBestX huBestY : Int32} {scBytes scTold tiTouching tiLyingAlong evBundle evCrossingOf evEventOf evLeftEvent evRightEvent grDegree grFar grQueue huX huY : Nat → Int32} {enX enY enLower : Int64} {evX evY evLower : Nat → Int64} {S : Nat → xsV} {Rw : va_W} {g0Lx g0Ly g0Rx g0Ry g0Ti : Nat → Int32} {g0Sz : Int32} (hs_0 : S 0 = (g0Lx, g0Ly, g0Rx, g0Ry, g0Ti, g0Sz)) {a0 : Int32} {a1 : Int32} {out : (Int32 × (Nat → Int32) × (Nat → Int32) × Int32 × Int32 × Int32) ⊕ (Nat × ((Nat → Int32) × (Nat → Int32) × Int32 × Int32 × Int32))} (hf : fX10_hull huX huY huSize huBestX huBestY g0Lx g0Ly g0Rx g0Ry g0Sz a0 a1 = some out) : vx_Met l yX10_hull (xsWs yX10_hull cX10_hull 3 (some .int)) { frames := 7, cells := 1, slots := 6, locals := 111 } (xsP X (wK X kIsKept kIsStale hiLatest hiSize scBytes scTold scLength scFault scAt scNumber piSegmentsNow enKind enX enY enLower enFromX enFromY enToX enToY tiTouching tiLyingAlong tiMeetingPairs tiAlongPairs tiSize evX evY evLower evBundle evCrossingOf evEventOf evLeftEvent evRightEvent evSize evCrossings evSegmentsNow grDegree grEdges grFar grQueue grQueued huX huY huSize huBestX huBestY S Rw) [.ref (xsA X 0), .int a0, .int a1]) (xsXi X (fun r u => ∃ tt, out = .inl tt ∧ r = tt.1 ∧ u = wK X kIsKept kIsStale hiLatest hiSize scBytes scTold scLength scFault scAt scNumber piSegmentsNow enKind enX enY enLower enFromX enFromY enToX enToY tiTouching tiLyingAlong tiMeetingPairs tiAlongPairs tiSize evX evY evLower evBundle evCrossingOf evEventOf evLeftEvent evRightEvent evSize evCrossings evSegmentsNow grDegree grEdges grFar grQueue grQueued tt.2.1 tt.2.2.1 tt.2.2.2.1 tt.2.2.2.2.1 tt.2.2.2.2.2 S Rw)) (xsXC X (fun n u => ∃ tt, out = .inr (n, tt) ∧ u = wK X kIsKept kIsStale hiLatest hiSize scBytes scTold scLength scFault scAt scNumber piSegmentsNow enKind enX enY enLower enFromX enFromY enToX enToY tiTouching tiLyingAlong tiMeetingPairs tiAlongPairs tiSize evX evY evLower evBundle evCrossingOf evEventOf evLeftEvent evRightEvent evSize evCrossings evSegmentsNow grDegree grEdges grFar grQueue grQueued tt.1 tt.2.1 tt.2.2.1 tt.2.2.2.1 tt.2.2.2.2 S Rw)) 1 6 (xsF X) := by
  refine xs_xmet RX10 (by decide) rfl (Nat.le_of_ble_eq_true rfl) ?_
  intro p e s m below meth c ls H locs C hout hP hD hS hr hlk hl
  have hx := C.1
  have hb := C.2.1
  have hl : lv_has ls 3 [(0, .ref (xsA X 0)), (1, .int a0), (2, .int a1)] := hl
  obtain ⟨Qq, hQq⟩ : ∃ Qq, Qq = xsXi X (fun r u => ∃ tt, out = .inl tt ∧ r = tt.1 ∧ u = wK X kIsKept kIsStale hiLatest hiSize scBytes scTold scLength scFault scAt scNumber piSegmentsNow enKind enX enY enLower enFromX enFromY enToX enToY tiTouching tiLyingAlong tiMeetingPairs tiAlongPairs tiSize evX evY evLower evBundle evCrossingOf evEventOf evLeftEvent evRightEvent evSize evCrossings evSegmentsNow grDegree grEdges grFar grQueue grQueued tt.2.1 tt.2.2.1 tt.2.2.2.1 tt.2.2.2.2.1 tt.2.2.2.2.2 S Rw) := ⟨_, rfl⟩
  rw [← hQq]
  obtain ⟨Xq, hXq⟩ : ∃ Xq, Xq = xsXC X (fun n u => ∃ tt, out = .inr (n, tt) ∧ u = wK X kIsKept kIsStale hiLatest hiSize scBytes scTold scLength scFault scAt scNumber piSegmentsNow enKind enX enY enLower enFromX enFromY enToX enToY tiTouching tiLyingAlong tiMeetingPairs tiAlongPairs tiSize evX evY evLower evBundle evCrossingOf evEventOf evLeftEvent evRightEvent evSize evCrossings evSegmentsNow grDegree grEdges grFar grQueue grQueued tt.1 tt.2.1 tt.2.2.1 tt.2.2.2.1 tt.2.2.2.2 S Rw) := ⟨_, rfl⟩
  rw [← hXq]
  unfold fX10_hull at hf
  refine lv_aload_n hx hb dX10_hull_0 rfl (lv_at hl 0 rfl) ?_
  refine xg_X10_46 C hP dX10_hull_1 ?_
  refine lv_aload_n hx hb dX10_hull_4 rfl (lv_at hl 0 rfl) ?_
  refine xg_X10_10 C hP dX10_hull_5 ?_
  replace hf := xsBd_use hf
  obtain ⟨o1, h2, hf⟩ := hf
  refine xs_callv hS (xs_runV (As := [.ref (xsA X 27)]) C (mX4_wrap l (js := 0) (by decide) hs_0 h2) w_750 w_751 w_752 w_114 w_753 hd_X4_wrap ⟨rfl, rfl, Nat.le_of_ble_eq_true rfl, Nat.le_of_ble_eq_true rfl, Nat.le_of_ble_eq_true rfl, Nat.le_of_ble_eq_true rfl⟩ hP hD hS lk_X4 rfl hl.1 rfl (Nat.le_of_ble_eq_true rfl) dX10_hull_8) (fun H locs hP hD hS => ?_)
  refine lv_iload_n hx hb dX10_hull_11 rfl (lv_at hl 1 rfl) ?_
  refine lv_aload_n hx hb dX10_hull_12 rfl (lv_at hl 0 rfl) ?_
  refine xg_X10_46 C hP dX10_hull_13 ?_
  refine xg_X10_334 C hP dX10_hull_16 ?_
  replace hf := xsBd_use hf
  obtain ⟨o3, h4, hf⟩ := hf
  refine xs_xcallv hS (xs_xrunS (As := [.int a0, .int o1.2.2.1]) C (mX10_checkPlace l hst  h4) w_1022 w_1023 w_105 w_1024 hd_X10_checkPlace ⟨rfl, rfl, Nat.le_of_ble_eq_true rfl, Nat.le_of_ble_eq_true rfl, Nat.le_of_ble_eq_true rfl, Nat.le_of_ble_eq_true rfl⟩ hP hD hS hl.1 rfl (Nat.le_of_ble_eq_true rfl) dX10_hull_19) (fun n u q H locs hpx hP hD hS hq => ?_) (fun u H locs hp hP hD hS => ?_)
  · obtain ⟨tx, e1, e2⟩ := hpx
    subst e1
    subst e2
    have ho := Option.some.inj hf
    subst ho
    rw [hXq]
    exact xs_xpass hlk hout ⟨_, rfl, rfl⟩ hP hD hS hq (Nat.le_of_ble_eq_true rfl) (Nat.le_of_ble_eq_true rfl)
  obtain ⟨v5, e1, e3⟩ := hp
  subst e1
  subst e3
  replace hf := xsTh_use hf
  refine W.widen (k := 1) (n := 6) (Nat.le_refl _) (Nat.le_refl _) ?_
  refine lv_iload_n hx hb dX10_hull_22 rfl (lv_at hl 2 rfl) ?_
  refine lv_if_eq (tgt := 38) hx hb dX10_hull_23 (by decide) (fun c8 => ?_) (fun c8 => ?_)
  · replace hf := xsBr_t c8 hf
    refine lv_aload_n hx hb dX10_hull_38 rfl (lv_at hl 0 rfl) ?_
    refine xg_X10_46 C hP dX10_hull_39 ?_
    refine xg_X10_337 C hP dX10_hull_42 ?_
    refine lv_iload_n hx hb dX10_hull_45 rfl (lv_at hl 1 rfl) ?_
    replace hf := xsCk_use hf
    obtain ⟨h6, hf⟩ := hf
    refine xl_huX C hP h6 dX10_hull_46 ?_
    have ho := Option.some.inj hf
    subst ho
    rw [hQq]
    exact xs_xiret C hr hlk ⟨_, rfl, rfl, rfl⟩ hP hD hS (Nat.le_of_ble_eq_true rfl) (Nat.le_of_ble_eq_true rfl) dX10_hull_47
  · replace hf := xsBr_f c8 hf
    refine lv_aload_n hx hb dX10_hull_26 rfl (lv_at hl 0 rfl) ?_
    refine xg_X10_46 C hP dX10_hull_27 ?_
    refine xg_X10_335 C hP dX10_hull_30 ?_
    refine lv_iload_n hx hb dX10_hull_33 rfl (lv_at hl 1 rfl) ?_
    replace hf := xsCk_use hf
    obtain ⟨h7, hf⟩ := hf
    refine xl_huY C hP h7 dX10_hull_34 ?_
    refine lv_goto (tgt := 47) hx hb dX10_hull_35 (by decide) ?_
    have ho := Option.some.inj hf
    subst ho
    rw [hQq]
    exact xs_xiret C hr hlk ⟨_, rfl, rfl, rfl⟩ hP hD hS (Nat.le_of_ble_eq_true rfl) (Nat.le_of_ble_eq_true rfl) dX10_hull_47
set_option maxRecDepth 100000 in
set_option maxHeartbeats 8000000 in
theorem mX10_on (l : Launch) (hst : l.stackTraces = false) {X : xsX} {kIsKept kIsStale hiLatest hiSize scLength scFault scAt scNumber piSegmentsNow enKind enFromX enFromY enToX enToY tiMeetingPairs tiAlongPairs tiSize evSize evCrossings evSegmentsNow grEdges grQueued huSize huBestX huBestY : Int32} {scBytes scTold tiTouching tiLyingAlong evBundle evCrossingOf evEventOf evLeftEvent evRightEvent grDegree grFar grQueue huX huY : Nat → Int32} {enX enY enLower : Int64} {evX evY evLower : Nat → Int64} {S : Nat → xsV} {Rw : va_W} {g0Lx g0Ly g0Rx g0Ry g0Ti : Nat → Int32} {g0Sz : Int32} (hs_0 : S 0 = (g0Lx, g0Ly, g0Rx, g0Ry, g0Ti, g0Sz)) {a0 : Int32} {a1 : Int32} {out : (Int32 × Int32 × Int32 × Int32 × Int64 × Int64 × Int64 × Int32 × Int32 × Int32 × Int32 × (Nat → Int32) × (Nat → Int32) × Int32 × Int32 × Int32 × (Nat → Int64) × (Nat → Int64) × (Nat → Int64) × (Nat → Int32) × (Nat → Int32) × (Nat → Int32) × (Nat → Int32) × (Nat → Int32) × Int32 × Int32 × Int32 × (Nat → Int32) × Int32) ⊕ (Nat × (Int32 × Int32 × Int32 × Int64 × Int64 × Int64 × Int32 × Int32 × Int32 × Int32 × (Nat → Int32) × (Nat → Int32) × Int32 × Int32 × Int32 × (Nat → Int64) × (Nat → Int64) × (Nat → Int64) × (Nat → Int32) × (Nat → Int32) × (Nat → Int32) × (Nat → Int32) × (Nat → Int32) × Int32 × Int32 × Int32 × (Nat → Int32) × Int32))} (hf : fX10_on kIsStale piSegmentsNow enKind enX enY enLower enFromX enFromY enToX enToY tiTouching tiLyingAlong tiMeetingPairs tiAlongPairs tiSize evX evY evLower evBundle evCrossingOf evEventOf evLeftEvent evRightEvent evSize evCrossings evSegmentsNow grDegree grEdges g0Lx g0Ly g0Rx g0Ry g0Sz a0 a1 = some out) : vx_Met l yX10_on (xsWs yX10_on cX10_on 6 (some .int)) { frames := 8, cells := 1, slots := 6, locals := 153 } (xsP X (wK X kIsKept kIsStale hiLatest hiSize scBytes scTold scLength scFault scAt scNumber piSegmentsNow enKind enX enY enLower enFromX enFromY enToX enToY tiTouching tiLyingAlong tiMeetingPairs tiAlongPairs tiSize evX evY evLower evBundle evCrossingOf evEventOf evLeftEvent evRightEvent evSize evCrossings evSegmentsNow grDegree grEdges grFar grQueue grQueued huX huY huSize huBestX huBestY S Rw) [.ref (xsA X 0), .int a0, .int a1]) (xsXi X (fun r u => ∃ tt, out = .inl tt ∧ r = tt.1 ∧ u = wK X kIsKept tt.2.1 hiLatest hiSize scBytes scTold scLength scFault scAt scNumber tt.2.2.1 tt.2.2.2.1 tt.2.2.2.2.1 tt.2.2.2.2.2.1 tt.2.2.2.2.2.2.1 tt.2.2.2.2.2.2.2.1 tt.2.2.2.2.2.2.2.2.1 tt.2.2.2.2.2.2.2.2.2.1 tt.2.2.2.2.2.2.2.2.2.2.1 tt.2.2.2.2.2.2.2.2.2.2.2.1 tt.2.2.2.2.2.2.2.2.2.2.2.2.1 tt.2.2.2.2.2.2.2.2.2.2.2.2.2.1 tt.2.2.2.2.2.2.2.2.2.2.2.2.2.2.1 tt.2.2.2.2.2.2.2.2.2.2.2.2.2.2.2.1 tt.2.2.2.2.2.2.2.2.2.2.2.2.2.2.2.2.1 tt.2.2.2.2.2.2.2.2.2.2.2.2.2.2.2.2.2.1 tt.2.2.2.2.2.2.2.2.2.2.2.2.2.2.2.2.2.2.1 tt.2.2.2.2.2.2.2.2.2.2.2.2.2.2.2.2.2.2.2.1 tt.2.2.2.2.2.2.2.2.2.2.2.2.2.2.2.2.2.2.2.2.1 tt.2.2.2.2.2.2.2.2.2.2.2.2.2.2.2.2.2.2.2.2.2.1 tt.2.2.2.2.2.2.2.2.2.2.2.2.2.2.2.2.2.2.2.2.2.2.1 tt.2.2.2.2.2.2.2.2.2.2.2.2.2.2.2.2.2.2.2.2.2.2.2.1 tt.2.2.2.2.2.2.2.2.2.2.2.2.2.2.2.2.2.2.2.2.2.2.2.2.1 tt.2.2.2.2.2.2.2.2.2.2.2.2.2.2.2.2.2.2.2.2.2.2.2.2.2.1 tt.2.2.2.2.2.2.2.2.2.2.2.2.2.2.2.2.2.2.2.2.2.2.2.2.2.2.1 tt.2.2.2.2.2.2.2.2.2.2.2.2.2.2.2.2.2.2.2.2.2.2.2.2.2.2.2.1 tt.2.2.2.2.2.2.2.2.2.2.2.2.2.2.2.2.2.2.2.2.2.2.2.2.2.2.2.2 grFar grQueue grQueued huX huY huSize huBestX huBestY S Rw)) (xsXC X (fun n u => ∃ tt, out = .inr (n, tt) ∧ u = wK X kIsKept tt.1 hiLatest hiSize scBytes scTold scLength scFault scAt scNumber tt.2.1 tt.2.2.1 tt.2.2.2.1 tt.2.2.2.2.1 tt.2.2.2.2.2.1 tt.2.2.2.2.2.2.1 tt.2.2.2.2.2.2.2.1 tt.2.2.2.2.2.2.2.2.1 tt.2.2.2.2.2.2.2.2.2.1 tt.2.2.2.2.2.2.2.2.2.2.1 tt.2.2.2.2.2.2.2.2.2.2.2.1 tt.2.2.2.2.2.2.2.2.2.2.2.2.1 tt.2.2.2.2.2.2.2.2.2.2.2.2.2.1 tt.2.2.2.2.2.2.2.2.2.2.2.2.2.2.1 tt.2.2.2.2.2.2.2.2.2.2.2.2.2.2.2.1 tt.2.2.2.2.2.2.2.2.2.2.2.2.2.2.2.2.1 tt.2.2.2.2.2.2.2.2.2.2.2.2.2.2.2.2.2.1 tt.2.2.2.2.2.2.2.2.2.2.2.2.2.2.2.2.2.2.1 tt.2.2.2.2.2.2.2.2.2.2.2.2.2.2.2.2.2.2.2.1 tt.2.2.2.2.2.2.2.2.2.2.2.2.2.2.2.2.2.2.2.2.1 tt.2.2.2.2.2.2.2.2.2.2.2.2.2.2.2.2.2.2.2.2.2.1 tt.2.2.2.2.2.2.2.2.2.2.2.2.2.2.2.2.2.2.2.2.2.2.1 tt.2.2.2.2.2.2.2.2.2.2.2.2.2.2.2.2.2.2.2.2.2.2.2.1 tt.2.2.2.2.2.2.2.2.2.2.2.2.2.2.2.2.2.2.2.2.2.2.2.2.1 tt.2.2.2.2.2.2.2.2.2.2.2.2.2.2.2.2.2.2.2.2.2.2.2.2.2.1 tt.2.2.2.2.2.2.2.2.2.2.2.2.2.2.2.2.2.2.2.2.2.2.2.2.2.2.1 tt.2.2.2.2.2.2.2.2.2.2.2.2.2.2.2.2.2.2.2.2.2.2.2.2.2.2.2 grFar grQueue grQueued huX huY huSize huBestX huBestY S Rw)) 1 6 (xsF X) := by
  refine xs_xmet RX10 (by decide) rfl (Nat.le_of_ble_eq_true rfl) ?_
  intro p e s m below meth c ls H locs C hout hP hD hS hr hlk hl
  have hx := C.1
  have hb := C.2.1
  have hl : lv_has ls 6 [(0, .ref (xsA X 0)), (1, .int a0), (2, .int a1)] := hl
  obtain ⟨Qq, hQq⟩ : ∃ Qq, Qq = xsXi X (fun r u => ∃ tt, out = .inl tt ∧ r = tt.1 ∧ u = wK X kIsKept tt.2.1 hiLatest hiSize scBytes scTold scLength scFault scAt scNumber tt.2.2.1 tt.2.2.2.1 tt.2.2.2.2.1 tt.2.2.2.2.2.1 tt.2.2.2.2.2.2.1 tt.2.2.2.2.2.2.2.1 tt.2.2.2.2.2.2.2.2.1 tt.2.2.2.2.2.2.2.2.2.1 tt.2.2.2.2.2.2.2.2.2.2.1 tt.2.2.2.2.2.2.2.2.2.2.2.1 tt.2.2.2.2.2.2.2.2.2.2.2.2.1 tt.2.2.2.2.2.2.2.2.2.2.2.2.2.1 tt.2.2.2.2.2.2.2.2.2.2.2.2.2.2.1 tt.2.2.2.2.2.2.2.2.2.2.2.2.2.2.2.1 tt.2.2.2.2.2.2.2.2.2.2.2.2.2.2.2.2.1 tt.2.2.2.2.2.2.2.2.2.2.2.2.2.2.2.2.2.1 tt.2.2.2.2.2.2.2.2.2.2.2.2.2.2.2.2.2.2.1 tt.2.2.2.2.2.2.2.2.2.2.2.2.2.2.2.2.2.2.2.1 tt.2.2.2.2.2.2.2.2.2.2.2.2.2.2.2.2.2.2.2.2.1 tt.2.2.2.2.2.2.2.2.2.2.2.2.2.2.2.2.2.2.2.2.2.1 tt.2.2.2.2.2.2.2.2.2.2.2.2.2.2.2.2.2.2.2.2.2.2.1 tt.2.2.2.2.2.2.2.2.2.2.2.2.2.2.2.2.2.2.2.2.2.2.2.1 tt.2.2.2.2.2.2.2.2.2.2.2.2.2.2.2.2.2.2.2.2.2.2.2.2.1 tt.2.2.2.2.2.2.2.2.2.2.2.2.2.2.2.2.2.2.2.2.2.2.2.2.2.1 tt.2.2.2.2.2.2.2.2.2.2.2.2.2.2.2.2.2.2.2.2.2.2.2.2.2.2.1 tt.2.2.2.2.2.2.2.2.2.2.2.2.2.2.2.2.2.2.2.2.2.2.2.2.2.2.2.1 tt.2.2.2.2.2.2.2.2.2.2.2.2.2.2.2.2.2.2.2.2.2.2.2.2.2.2.2.2 grFar grQueue grQueued huX huY huSize huBestX huBestY S Rw) := ⟨_, rfl⟩
  rw [← hQq]
  obtain ⟨Xq, hXq⟩ : ∃ Xq, Xq = xsXC X (fun n u => ∃ tt, out = .inr (n, tt) ∧ u = wK X kIsKept tt.1 hiLatest hiSize scBytes scTold scLength scFault scAt scNumber tt.2.1 tt.2.2.1 tt.2.2.2.1 tt.2.2.2.2.1 tt.2.2.2.2.2.1 tt.2.2.2.2.2.2.1 tt.2.2.2.2.2.2.2.1 tt.2.2.2.2.2.2.2.2.1 tt.2.2.2.2.2.2.2.2.2.1 tt.2.2.2.2.2.2.2.2.2.2.1 tt.2.2.2.2.2.2.2.2.2.2.2.1 tt.2.2.2.2.2.2.2.2.2.2.2.2.1 tt.2.2.2.2.2.2.2.2.2.2.2.2.2.1 tt.2.2.2.2.2.2.2.2.2.2.2.2.2.2.1 tt.2.2.2.2.2.2.2.2.2.2.2.2.2.2.2.1 tt.2.2.2.2.2.2.2.2.2.2.2.2.2.2.2.2.1 tt.2.2.2.2.2.2.2.2.2.2.2.2.2.2.2.2.2.1 tt.2.2.2.2.2.2.2.2.2.2.2.2.2.2.2.2.2.2.1 tt.2.2.2.2.2.2.2.2.2.2.2.2.2.2.2.2.2.2.2.1 tt.2.2.2.2.2.2.2.2.2.2.2.2.2.2.2.2.2.2.2.2.1 tt.2.2.2.2.2.2.2.2.2.2.2.2.2.2.2.2.2.2.2.2.2.1 tt.2.2.2.2.2.2.2.2.2.2.2.2.2.2.2.2.2.2.2.2.2.2.1 tt.2.2.2.2.2.2.2.2.2.2.2.2.2.2.2.2.2.2.2.2.2.2.2.1 tt.2.2.2.2.2.2.2.2.2.2.2.2.2.2.2.2.2.2.2.2.2.2.2.2.1 tt.2.2.2.2.2.2.2.2.2.2.2.2.2.2.2.2.2.2.2.2.2.2.2.2.2.1 tt.2.2.2.2.2.2.2.2.2.2.2.2.2.2.2.2.2.2.2.2.2.2.2.2.2.2.1 tt.2.2.2.2.2.2.2.2.2.2.2.2.2.2.2.2.2.2.2.2.2.2.2.2.2.2.2 grFar grQueue grQueued huX huY huSize huBestX huBestY S Rw) := ⟨_, rfl⟩
  rw [← hXq]
  unfold fX10_on at hf
  refine lv_aload_n hx hb dX10_on_0 rfl (lv_at hl 0 rfl) ?_
  refine lv_iload_n hx hb dX10_on_1 rfl (lv_at hl 1 rfl) ?_
  replace hf := xsBd_use hf
  obtain ⟨o1, h2, hf⟩ := hf
  refine xs_xcallv hS (xs_xrunV (As := [.int a0]) C (mX10_checkSegment l hst hs_0 h2) w_1018 w_1020 w_28 w_105 w_1021 hd_X10_checkSegment ⟨rfl, rfl, Nat.le_of_ble_eq_true rfl, Nat.le_of_ble_eq_true rfl, Nat.le_of_ble_eq_true rfl, Nat.le_of_ble_eq_true rfl⟩ hP hD hS lk_X10 rfl hl.1 rfl (Nat.le_of_ble_eq_true rfl) dX10_on_2) (fun n u q H locs hpx hP hD hS hq => ?_) (fun u H locs hp hP hD hS => ?_)
  · obtain ⟨tx, e1, e2⟩ := hpx
    subst e1
    subst e2
    have ho := Option.some.inj hf
    subst ho
    rw [hXq]
    exact xs_xpass hlk hout ⟨_, rfl, rfl⟩ hP hD hS hq (Nat.le_of_ble_eq_true rfl) (Nat.le_of_ble_eq_true rfl)
  obtain ⟨v3, e1, e3⟩ := hp
  subst e1
  subst e3
  replace hf := xsTh_use hf
  refine W.widen (k := 1) (n := 6) (Nat.le_refl _) (Nat.le_refl _) ?_
  refine lv_aload_n hx hb dX10_on_5 rfl (lv_at hl 0 rfl) ?_
  replace hf := xsBd_use hf
  obtain ⟨o4, h5, hf⟩ := hf
  refine xs_callr hS (xs_runV (As := []) C (mX10_drawn l hs_0 h5) w_535 w_537 w_2 w_105 w_538 hd_X10_drawn ⟨rfl, rfl, Nat.le_of_ble_eq_true rfl, Nat.le_of_ble_eq_true rfl, Nat.le_of_ble_eq_true rfl, Nat.le_of_ble_eq_true rfl⟩ hP hD hS lk_X10 rfl hl.1 rfl (Nat.le_of_ble_eq_true rfl) dX10_on_6) (fun H locs hP hD hS => ?_)
  refine xg_X10_129 C hP dX10_on_9 ?_
  refine lv_astore_n (lv' := [(3, .ref (xsA X 11)), (0, .ref (xsA X 0)), (1, .int a0), (2, .int a1)]) hx hb dX10_on_12 rfl hl (by decide) rfl (fun ls hl => ?_)
  refine lv_iconst (v := (0 : Int32)) hx hb dX10_on_13 (by decide) ?_
  refine lv_istore (lv' := [(4, .int (0 : Int32)), (3, .ref (xsA X 11)), (0, .ref (xsA X 0)), (1, .int a0), (2, .int a1)]) hx hb dX10_on_14 hl (by decide) rfl (fun ls hl => ?_)
  refine lv_iconst (v := (0 : Int32)) hx hb dX10_on_16 (by decide) ?_
  refine lv_istore (lv' := [(5, .int (0 : Int32)), (4, .int (0 : Int32)), (3, .ref (xsA X 11)), (0, .ref (xsA X 0)), (1, .int a0), (2, .int a1)]) hx hb dX10_on_17 hl (by decide) rfl (fun ls hl => ?_)
  have K8 : ∀ (hf : fX10_on_J65 o4 = some out) (H : Heap) (locs : List Loc) (ls : Array Slot), va_P (xsD X) vwCl (wK X kIsKept o4.1 hiLatest hiSize scBytes scTold scLength scFault scAt scNumber o4.2.1 o4.2.2.1 o4.2.2.2.1 o4.2.2.2.2.1 o4.2.2.2.2.2.1 o4.2.2.2.2.2.2.1 o4.2.2.2.2.2.2.2.1 o4.2.2.2.2.2.2.2.2.1 o4.2.2.2.2.2.2.2.2.2.1 o4.2.2.2.2.2.2.2.2.2.2.1 o4.2.2.2.2.2.2.2.2.2.2.2.1 o4.2.2.2.2.2.2.2.2.2.2.2.2.1 o4.2.2.2.2.2.2.2.2.2.2.2.2.2.1 o4.2.2.2.2.2.2.2.2.2.2.2.2.2.2.1 o4.2.2.2.2.2.2.2.2.2.2.2.2.2.2.2.1 o4.2.2.2.2.2.2.2.2.2.2.2.2.2.2.2.2.1 o4.2.2.2.2.2.2.2.2.2.2.2.2.2.2.2.2.2.1 o4.2.2.2.2.2.2.2.2.2.2.2.2.2.2.2.2.2.2.1 o4.2.2.2.2.2.2.2.2.2.2.2.2.2.2.2.2.2.2.2.1 o4.2.2.2.2.2.2.2.2.2.2.2.2.2.2.2.2.2.2.2.2.1 o4.2.2.2.2.2.2.2.2.2.2.2.2.2.2.2.2.2.2.2.2.2.1 o4.2.2.2.2.2.2.2.2.2.2.2.2.2.2.2.2.2.2.2.2.2.2.1 o4.2.2.2.2.2.2.2.2.2.2.2.2.2.2.2.2.2.2.2.2.2.2.2.1 o4.2.2.2.2.2.2.2.2.2.2.2.2.2.2.2.2.2.2.2.2.2.2.2.2.1 o4.2.2.2.2.2.2.2.2.2.2.2.2.2.2.2.2.2.2.2.2.2.2.2.2.2.1 o4.2.2.2.2.2.2.2.2.2.2.2.2.2.2.2.2.2.2.2.2.2.2.2.2.2.2.1 o4.2.2.2.2.2.2.2.2.2.2.2.2.2.2.2.2.2.2.2.2.2.2.2.2.2.2.2 grFar grQueue grQueued huX huY huSize huBestX huBestY S Rw) H → va_D (xsF X) (wK X kIsKept o4.1 hiLatest hiSize scBytes scTold scLength scFault scAt scNumber o4.2.1 o4.2.2.1 o4.2.2.2.1 o4.2.2.2.2.1 o4.2.2.2.2.2.1 o4.2.2.2.2.2.2.1 o4.2.2.2.2.2.2.2.1 o4.2.2.2.2.2.2.2.2.1 o4.2.2.2.2.2.2.2.2.2.1 o4.2.2.2.2.2.2.2.2.2.2.1 o4.2.2.2.2.2.2.2.2.2.2.2.1 o4.2.2.2.2.2.2.2.2.2.2.2.2.1 o4.2.2.2.2.2.2.2.2.2.2.2.2.2.1 o4.2.2.2.2.2.2.2.2.2.2.2.2.2.2.1 o4.2.2.2.2.2.2.2.2.2.2.2.2.2.2.2.1 o4.2.2.2.2.2.2.2.2.2.2.2.2.2.2.2.2.1 o4.2.2.2.2.2.2.2.2.2.2.2.2.2.2.2.2.2.1 o4.2.2.2.2.2.2.2.2.2.2.2.2.2.2.2.2.2.2.1 o4.2.2.2.2.2.2.2.2.2.2.2.2.2.2.2.2.2.2.2.1 o4.2.2.2.2.2.2.2.2.2.2.2.2.2.2.2.2.2.2.2.2.1 o4.2.2.2.2.2.2.2.2.2.2.2.2.2.2.2.2.2.2.2.2.2.1 o4.2.2.2.2.2.2.2.2.2.2.2.2.2.2.2.2.2.2.2.2.2.2.1 o4.2.2.2.2.2.2.2.2.2.2.2.2.2.2.2.2.2.2.2.2.2.2.2.1 o4.2.2.2.2.2.2.2.2.2.2.2.2.2.2.2.2.2.2.2.2.2.2.2.2.1 o4.2.2.2.2.2.2.2.2.2.2.2.2.2.2.2.2.2.2.2.2.2.2.2.2.2.1 o4.2.2.2.2.2.2.2.2.2.2.2.2.2.2.2.2.2.2.2.2.2.2.2.2.2.2.1 o4.2.2.2.2.2.2.2.2.2.2.2.2.2.2.2.2.2.2.2.2.2.2.2.2.2.2.2 grFar grQueue grQueued huX huY huSize huBestX huBestY S Rw) → va_S (xsF X) s.heap H locs → lv_has ls 6 [] → W p l e { frames := 8, cells := 1, slots := 6, locals := 153 } s m ([.ref (xsA X 0), .int a0, .int a1] : List Value).toArray below meth c H locs 1 6 (vx_MQ below Qq Xq ([.ref (xsA X 0), .int a0, .int a1] : List Value).toArray s 1 6 (xsF X)) (F0 m 65 ls []) := by
    intro hf H locs ls hP hD hS hl
    unfold fX10_on_J65 at hf
    refine lv_iconst (v := (-1 : Int32)) hx hb dX10_on_65 (by decide) ?_
    have ho := Option.some.inj hf
    subst ho
    rw [hQq]
    exact xs_xiret C hr hlk ⟨_, rfl, rfl, rfl⟩ hP hD hS (Nat.le_of_ble_eq_true rfl) (Nat.le_of_ble_eq_true rfl) dX10_on_66
  replace hf := xsBd_use hf
  obtain ⟨r8, hk80, hf⟩ := hf
  have L8 : ∀ (sg : Int32 × Int32) (rg : ((Int32 × Int32 × Int32 × Int32 × Int64 × Int64 × Int64 × Int32 × Int32 × Int32 × Int32 × (Nat → Int32) × (Nat → Int32) × Int32 × Int32 × Int32 × (Nat → Int64) × (Nat → Int64) × (Nat → Int64) × (Nat → Int32) × (Nat → Int32) × (Nat → Int32) × (Nat → Int32) × (Nat → Int32) × Int32 × Int32 × Int32 × (Nat → Int32) × Int32) ⊕ (Nat × (Int32 × Int32 × Int32 × Int64 × Int64 × Int64 × Int32 × Int32 × Int32 × Int32 × (Nat → Int32) × (Nat → Int32) × Int32 × Int32 × Int32 × (Nat → Int64) × (Nat → Int64) × (Nat → Int64) × (Nat → Int32) × (Nat → Int32) × (Nat → Int32) × (Nat → Int32) × (Nat → Int32) × Int32 × Int32 × Int32 × (Nat → Int32) × Int32))) ⊕ (Unit)), xsWh (fun s8 => fX10_on_L19 a0 a1 o4 s8.1 s8.2) sg = some rg → (xsSm rg (fun v8 => fX10_on_J65 o4) = some out → ∀ (H : Heap) (locs : List Loc) (ls : Array Slot), va_P (xsD X) vwCl (wK X kIsKept o4.1 hiLatest hiSize scBytes scTold scLength scFault scAt scNumber o4.2.1 o4.2.2.1 o4.2.2.2.1 o4.2.2.2.2.1 o4.2.2.2.2.2.1 o4.2.2.2.2.2.2.1 o4.2.2.2.2.2.2.2.1 o4.2.2.2.2.2.2.2.2.1 o4.2.2.2.2.2.2.2.2.2.1 o4.2.2.2.2.2.2.2.2.2.2.1 o4.2.2.2.2.2.2.2.2.2.2.2.1 o4.2.2.2.2.2.2.2.2.2.2.2.2.1 o4.2.2.2.2.2.2.2.2.2.2.2.2.2.1 o4.2.2.2.2.2.2.2.2.2.2.2.2.2.2.1 o4.2.2.2.2.2.2.2.2.2.2.2.2.2.2.2.1 o4.2.2.2.2.2.2.2.2.2.2.2.2.2.2.2.2.1 o4.2.2.2.2.2.2.2.2.2.2.2.2.2.2.2.2.2.1 o4.2.2.2.2.2.2.2.2.2.2.2.2.2.2.2.2.2.2.1 o4.2.2.2.2.2.2.2.2.2.2.2.2.2.2.2.2.2.2.2.1 o4.2.2.2.2.2.2.2.2.2.2.2.2.2.2.2.2.2.2.2.2.1 o4.2.2.2.2.2.2.2.2.2.2.2.2.2.2.2.2.2.2.2.2.2.1 o4.2.2.2.2.2.2.2.2.2.2.2.2.2.2.2.2.2.2.2.2.2.2.1 o4.2.2.2.2.2.2.2.2.2.2.2.2.2.2.2.2.2.2.2.2.2.2.2.1 o4.2.2.2.2.2.2.2.2.2.2.2.2.2.2.2.2.2.2.2.2.2.2.2.2.1 o4.2.2.2.2.2.2.2.2.2.2.2.2.2.2.2.2.2.2.2.2.2.2.2.2.2.1 o4.2.2.2.2.2.2.2.2.2.2.2.2.2.2.2.2.2.2.2.2.2.2.2.2.2.2.1 o4.2.2.2.2.2.2.2.2.2.2.2.2.2.2.2.2.2.2.2.2.2.2.2.2.2.2.2 grFar grQueue grQueued huX huY huSize huBestX huBestY S Rw) H → va_D (xsF X) (wK X kIsKept o4.1 hiLatest hiSize scBytes scTold scLength scFault scAt scNumber o4.2.1 o4.2.2.1 o4.2.2.2.1 o4.2.2.2.2.1 o4.2.2.2.2.2.1 o4.2.2.2.2.2.2.1 o4.2.2.2.2.2.2.2.1 o4.2.2.2.2.2.2.2.2.1 o4.2.2.2.2.2.2.2.2.2.1 o4.2.2.2.2.2.2.2.2.2.2.1 o4.2.2.2.2.2.2.2.2.2.2.2.1 o4.2.2.2.2.2.2.2.2.2.2.2.2.1 o4.2.2.2.2.2.2.2.2.2.2.2.2.2.1 o4.2.2.2.2.2.2.2.2.2.2.2.2.2.2.1 o4.2.2.2.2.2.2.2.2.2.2.2.2.2.2.2.1 o4.2.2.2.2.2.2.2.2.2.2.2.2.2.2.2.2.1 o4.2.2.2.2.2.2.2.2.2.2.2.2.2.2.2.2.2.1 o4.2.2.2.2.2.2.2.2.2.2.2.2.2.2.2.2.2.2.1 o4.2.2.2.2.2.2.2.2.2.2.2.2.2.2.2.2.2.2.2.1 o4.2.2.2.2.2.2.2.2.2.2.2.2.2.2.2.2.2.2.2.2.1 o4.2.2.2.2.2.2.2.2.2.2.2.2.2.2.2.2.2.2.2.2.2.1 o4.2.2.2.2.2.2.2.2.2.2.2.2.2.2.2.2.2.2.2.2.2.2.1 o4.2.2.2.2.2.2.2.2.2.2.2.2.2.2.2.2.2.2.2.2.2.2.2.1 o4.2.2.2.2.2.2.2.2.2.2.2.2.2.2.2.2.2.2.2.2.2.2.2.2.1 o4.2.2.2.2.2.2.2.2.2.2.2.2.2.2.2.2.2.2.2.2.2.2.2.2.2.1 o4.2.2.2.2.2.2.2.2.2.2.2.2.2.2.2.2.2.2.2.2.2.2.2.2.2.2.1 o4.2.2.2.2.2.2.2.2.2.2.2.2.2.2.2.2.2.2.2.2.2.2.2.2.2.2.2 grFar grQueue grQueued huX huY huSize huBestX huBestY S Rw) → va_S (xsF X) s.heap H locs → lv_has ls 6 [(1, .int a0), (2, .int a1), (3, .ref (xsA X 11)), (4, .int sg.1), (5, .int sg.2)] → W p l e { frames := 8, cells := 1, slots := 6, locals := 153 } s m ([.ref (xsA X 0), .int a0, .int a1] : List Value).toArray below meth c H locs 1 6 (vx_MQ below Qq Xq ([.ref (xsA X 0), .int a0, .int a1] : List Value).toArray s 1 6 (xsF X)) (F0 m 19 ls [])) := by
    refine xsWh_ind ?_
    intro sg r8 u8 hf ih8 hx8 hk8 H locs ls hP hD hS hl
    obtain ⟨y6, y7⟩ := sg
    replace hf : fX10_on_L19 a0 a1 o4 y6 y7 = some u8 := hf
    replace hl : lv_has ls 6 [(1, .int a0), (2, .int a1), (3, .ref (xsA X 11)), (4, .int y6), (5, .int y7)] := hl
    replace hP : va_P (xsD X) vwCl (wK X kIsKept o4.1 hiLatest hiSize scBytes scTold scLength scFault scAt scNumber o4.2.1 o4.2.2.1 o4.2.2.2.1 o4.2.2.2.2.1 o4.2.2.2.2.2.1 o4.2.2.2.2.2.2.1 o4.2.2.2.2.2.2.2.1 o4.2.2.2.2.2.2.2.2.1 o4.2.2.2.2.2.2.2.2.2.1 o4.2.2.2.2.2.2.2.2.2.2.1 o4.2.2.2.2.2.2.2.2.2.2.2.1 o4.2.2.2.2.2.2.2.2.2.2.2.2.1 o4.2.2.2.2.2.2.2.2.2.2.2.2.2.1 o4.2.2.2.2.2.2.2.2.2.2.2.2.2.2.1 o4.2.2.2.2.2.2.2.2.2.2.2.2.2.2.2.1 o4.2.2.2.2.2.2.2.2.2.2.2.2.2.2.2.2.1 o4.2.2.2.2.2.2.2.2.2.2.2.2.2.2.2.2.2.1 o4.2.2.2.2.2.2.2.2.2.2.2.2.2.2.2.2.2.2.1 o4.2.2.2.2.2.2.2.2.2.2.2.2.2.2.2.2.2.2.2.1 o4.2.2.2.2.2.2.2.2.2.2.2.2.2.2.2.2.2.2.2.2.1 o4.2.2.2.2.2.2.2.2.2.2.2.2.2.2.2.2.2.2.2.2.2.1 o4.2.2.2.2.2.2.2.2.2.2.2.2.2.2.2.2.2.2.2.2.2.2.1 o4.2.2.2.2.2.2.2.2.2.2.2.2.2.2.2.2.2.2.2.2.2.2.2.1 o4.2.2.2.2.2.2.2.2.2.2.2.2.2.2.2.2.2.2.2.2.2.2.2.2.1 o4.2.2.2.2.2.2.2.2.2.2.2.2.2.2.2.2.2.2.2.2.2.2.2.2.2.1 o4.2.2.2.2.2.2.2.2.2.2.2.2.2.2.2.2.2.2.2.2.2.2.2.2.2.2.1 o4.2.2.2.2.2.2.2.2.2.2.2.2.2.2.2.2.2.2.2.2.2.2.2.2.2.2.2 grFar grQueue grQueued huX huY huSize huBestX huBestY S Rw) H := hP
    replace hD : va_D (xsF X) (wK X kIsKept o4.1 hiLatest hiSize scBytes scTold scLength scFault scAt scNumber o4.2.1 o4.2.2.1 o4.2.2.2.1 o4.2.2.2.2.1 o4.2.2.2.2.2.1 o4.2.2.2.2.2.2.1 o4.2.2.2.2.2.2.2.1 o4.2.2.2.2.2.2.2.2.1 o4.2.2.2.2.2.2.2.2.2.1 o4.2.2.2.2.2.2.2.2.2.2.1 o4.2.2.2.2.2.2.2.2.2.2.2.1 o4.2.2.2.2.2.2.2.2.2.2.2.2.1 o4.2.2.2.2.2.2.2.2.2.2.2.2.2.1 o4.2.2.2.2.2.2.2.2.2.2.2.2.2.2.1 o4.2.2.2.2.2.2.2.2.2.2.2.2.2.2.2.1 o4.2.2.2.2.2.2.2.2.2.2.2.2.2.2.2.2.1 o4.2.2.2.2.2.2.2.2.2.2.2.2.2.2.2.2.2.1 o4.2.2.2.2.2.2.2.2.2.2.2.2.2.2.2.2.2.2.1 o4.2.2.2.2.2.2.2.2.2.2.2.2.2.2.2.2.2.2.2.1 o4.2.2.2.2.2.2.2.2.2.2.2.2.2.2.2.2.2.2.2.2.1 o4.2.2.2.2.2.2.2.2.2.2.2.2.2.2.2.2.2.2.2.2.2.1 o4.2.2.2.2.2.2.2.2.2.2.2.2.2.2.2.2.2.2.2.2.2.2.1 o4.2.2.2.2.2.2.2.2.2.2.2.2.2.2.2.2.2.2.2.2.2.2.2.1 o4.2.2.2.2.2.2.2.2.2.2.2.2.2.2.2.2.2.2.2.2.2.2.2.2.1 o4.2.2.2.2.2.2.2.2.2.2.2.2.2.2.2.2.2.2.2.2.2.2.2.2.2.1 o4.2.2.2.2.2.2.2.2.2.2.2.2.2.2.2.2.2.2.2.2.2.2.2.2.2.2.1 o4.2.2.2.2.2.2.2.2.2.2.2.2.2.2.2.2.2.2.2.2.2.2.2.2.2.2.2 grFar grQueue grQueued huX huY huSize huBestX huBestY S Rw) := hD
    unfold fX10_on_L19 at hf
    refine lv_iload hx hb dX10_on_19 (lv_at hl 4 rfl) ?_
    refine lv_aload_n hx hb dX10_on_21 rfl (lv_at hl 2 rfl) ?_
    refine xg_X10_133 C hP dX10_on_22 ?_
    refine lv_icmp_ge (tgt := 65) hx hb dX10_on_25 (by decide) (fun c18 => ?_) (fun c18 => ?_)
    · replace hf := xsBr_t c18 hf
      have ez := hx8 _ (Option.some.inj hf).symm
      subst ez
      exact K8 hk8 H locs ls hP hD hS (lv_sub hl [] rfl)
    · replace hf := xsBr_f c18 hf
      refine lv_aload_n hx hb dX10_on_28 rfl (lv_at hl 2 rfl) ?_
      refine xg_X10_260 C hP dX10_on_29 ?_
      refine lv_aload_n hx hb dX10_on_32 rfl (lv_at hl 2 rfl) ?_
      refine xg_X10_257 C hP dX10_on_33 ?_
      refine lv_iload hx hb dX10_on_36 (lv_at hl 4 rfl) ?_
      replace hf := xsCk_use hf
      obtain ⟨h9, hf⟩ := hf
      refine xl_evEventOf C hP h9 dX10_on_38 ?_
      replace hf := xsCk_use hf
      obtain ⟨h10, hf⟩ := hf
      refine xl_evBundle C hP h10 dX10_on_39 ?_
      refine lv_iload_n hx hb dX10_on_40 rfl (lv_at hl 0 rfl) ?_
      replace hf := xsBd_use hf
      obtain ⟨o11, h12, hf⟩ := hf
      refine xs_calli hS (xs_runS (As := [.int (o4.2.2.2.2.2.2.2.2.2.2.2.2.2.2.2.2.2.2.1 (o4.2.2.2.2.2.2.2.2.2.2.2.2.2.2.2.2.2.2.2.2.1 y7.toNatClampNeg).toNatClampNeg), .int a0]) C (mX10_has l  h12) w_1194 w_605 w_105 w_606 hd_X10_has ⟨rfl, rfl, Nat.le_of_ble_eq_true rfl, Nat.le_of_ble_eq_true rfl, Nat.le_of_ble_eq_true rfl, Nat.le_of_ble_eq_true rfl⟩ hP hD hS hl.1 rfl (Nat.le_of_ble_eq_true rfl) dX10_on_41) (fun H locs hP hD hS => ?_)
      refine lv_if_eq (tgt := 59) hx hb dX10_on_44 (by decide) (fun c17 => ?_) (fun c17 => ?_)
      · replace hf := xsBr_t c17 hf
        obtain ⟨x13, ex13⟩ : ∃ y : Int32, y = y7 + (1 : Int32) := ⟨_, rfl⟩
        replace hf := xsLt_use ex13 hf
        refine lv_iinc (v := x13) (lv' := [(5, .int x13), (1, .int a0), (2, .int a1), (3, .ref (xsA X 11)), (4, .int y6)]) hx hb dX10_on_59 hl (k := 4) rfl (by rw [ex13]; rfl) (by decide) rfl (fun ls hl => ?_)
        refine lv_goto (tgt := 19) hx hb dX10_on_62 (by decide) ?_
        exact ih8 _ (Option.some.inj hf).symm hk8 H locs ls hP hD hS (lv_sub hl [1, 2, 3, 4, 0] rfl)
      · replace hf := xsBr_f c17 hf
        refine lv_iload hx hb dX10_on_47 (lv_at hl 3 rfl) ?_
        refine lv_iload_n hx hb dX10_on_49 rfl (lv_at hl 1 rfl) ?_
        refine lv_icmp_ne (tgt := 56) hx hb dX10_on_50 (by decide) (fun c16 => ?_) (fun c16 => ?_)
        · replace hf := xsBr_f c16 hf
          obtain ⟨x14, ex14⟩ : ∃ y : Int32, y = y6 + (1 : Int32) := ⟨_, rfl⟩
          replace hf := xsLt_use ex14 hf
          refine lv_iinc (v := x14) (lv' := [(4, .int x14), (1, .int a0), (2, .int a1), (3, .ref (xsA X 11)), (5, .int y7)]) hx hb dX10_on_56 hl (k := 3) rfl (by rw [ex14]; rfl) (by decide) rfl (fun ls hl => ?_)
          obtain ⟨x15, ex15⟩ : ∃ y : Int32, y = y7 + (1 : Int32) := ⟨_, rfl⟩
          replace hf := xsLt_use ex15 hf
          refine lv_iinc (v := x15) (lv' := [(5, .int x15), (4, .int x14), (1, .int a0), (2, .int a1), (3, .ref (xsA X 11))]) hx hb dX10_on_59 hl (k := 4) rfl (by rw [ex15]; rfl) (by decide) rfl (fun ls hl => ?_)
          refine lv_goto (tgt := 19) hx hb dX10_on_62 (by decide) ?_
          exact ih8 _ (Option.some.inj hf).symm hk8 H locs ls hP hD hS (lv_sub hl [2, 3, 4, 1, 0] rfl)
        · replace hf := xsBr_t c16 hf
          refine lv_iload hx hb dX10_on_53 (lv_at hl 4 rfl) ?_
          have ez := hx8 _ (Option.some.inj hf).symm
          subst ez
          have hf := hk8
          have ho := Option.some.inj hf
          subst ho
          rw [hQq]
          exact xs_xiret C hr hlk ⟨_, rfl, rfl, rfl⟩ hP hD hS (Nat.le_of_ble_eq_true rfl) (Nat.le_of_ble_eq_true rfl) dX10_on_55
  exact L8 ((0 : Int32), (0 : Int32)) r8 hk80 hf H locs ls hP hD hS (lv_sub hl [4, 5, 2, 1, 0] rfl)
set_option maxRecDepth 100000 in
set_option maxHeartbeats 8000000 in
theorem mX10_at (l : Launch) (hst : l.stackTraces = false) {X : xsX} {kIsKept kIsStale hiLatest hiSize scLength scFault scAt scNumber piSegmentsNow enKind enFromX enFromY enToX enToY tiMeetingPairs tiAlongPairs tiSize evSize evCrossings evSegmentsNow grEdges grQueued huSize huBestX huBestY : Int32} {scBytes scTold tiTouching tiLyingAlong evBundle evCrossingOf evEventOf evLeftEvent evRightEvent grDegree grFar grQueue huX huY : Nat → Int32} {enX enY enLower : Int64} {evX evY evLower : Nat → Int64} {S : Nat → xsV} {Rw : va_W} {g0Lx g0Ly g0Rx g0Ry g0Ti : Nat → Int32} {g0Sz : Int32} (hs_0 : S 0 = (g0Lx, g0Ly, g0Rx, g0Ry, g0Ti, g0Sz)) {a0 : Int32} {a1 : Int32} {out : (Int32) ⊕ (Nat × (Unit))} (hf : fX10_at g0Lx g0Ly g0Rx g0Ry g0Sz a0 a1 = some out) : vx_Met l yX10_at (xsWs yX10_at cX10_at 5 (some .int)) { frames := 7, cells := 1, slots := 6, locals := 111 } (xsP X (wK X kIsKept kIsStale hiLatest hiSize scBytes scTold scLength scFault scAt scNumber piSegmentsNow enKind enX enY enLower enFromX enFromY enToX enToY tiTouching tiLyingAlong tiMeetingPairs tiAlongPairs tiSize evX evY evLower evBundle evCrossingOf evEventOf evLeftEvent evRightEvent evSize evCrossings evSegmentsNow grDegree grEdges grFar grQueue grQueued huX huY huSize huBestX huBestY S Rw) [.ref (xsA X 0), .int a0, .int a1]) (xsXi X (fun r u => ∃ tt, out = .inl tt ∧ r = tt ∧ u = wK X kIsKept kIsStale hiLatest hiSize scBytes scTold scLength scFault scAt scNumber piSegmentsNow enKind enX enY enLower enFromX enFromY enToX enToY tiTouching tiLyingAlong tiMeetingPairs tiAlongPairs tiSize evX evY evLower evBundle evCrossingOf evEventOf evLeftEvent evRightEvent evSize evCrossings evSegmentsNow grDegree grEdges grFar grQueue grQueued huX huY huSize huBestX huBestY S Rw)) (xsXC X (fun n u => ∃ tt, out = .inr (n, tt) ∧ u = wK X kIsKept kIsStale hiLatest hiSize scBytes scTold scLength scFault scAt scNumber piSegmentsNow enKind enX enY enLower enFromX enFromY enToX enToY tiTouching tiLyingAlong tiMeetingPairs tiAlongPairs tiSize evX evY evLower evBundle evCrossingOf evEventOf evLeftEvent evRightEvent evSize evCrossings evSegmentsNow grDegree grEdges grFar grQueue grQueued huX huY huSize huBestX huBestY S Rw)) 1 6 (xsF X) := by
  refine xs_xmet RX10 (by decide) rfl (Nat.le_of_ble_eq_true rfl) ?_
  intro p e s m below meth c ls H locs C hout hP hD hS hr hlk hl
  have hx := C.1
  have hb := C.2.1
  have hl : lv_has ls 5 [(0, .ref (xsA X 0)), (1, .int a0), (2, .int a1)] := hl
  obtain ⟨Qq, hQq⟩ : ∃ Qq, Qq = xsXi X (fun r u => ∃ tt, out = .inl tt ∧ r = tt ∧ u = wK X kIsKept kIsStale hiLatest hiSize scBytes scTold scLength scFault scAt scNumber piSegmentsNow enKind enX enY enLower enFromX enFromY enToX enToY tiTouching tiLyingAlong tiMeetingPairs tiAlongPairs tiSize evX evY evLower evBundle evCrossingOf evEventOf evLeftEvent evRightEvent evSize evCrossings evSegmentsNow grDegree grEdges grFar grQueue grQueued huX huY huSize huBestX huBestY S Rw) := ⟨_, rfl⟩
  rw [← hQq]
  obtain ⟨Xq, hXq⟩ : ∃ Xq, Xq = xsXC X (fun n u => ∃ tt, out = .inr (n, tt) ∧ u = wK X kIsKept kIsStale hiLatest hiSize scBytes scTold scLength scFault scAt scNumber piSegmentsNow enKind enX enY enLower enFromX enFromY enToX enToY tiTouching tiLyingAlong tiMeetingPairs tiAlongPairs tiSize evX evY evLower evBundle evCrossingOf evEventOf evLeftEvent evRightEvent evSize evCrossings evSegmentsNow grDegree grEdges grFar grQueue grQueued huX huY huSize huBestX huBestY S Rw) := ⟨_, rfl⟩
  rw [← hXq]
  unfold fX10_at at hf
  refine lv_iload_n hx hb dX10_at_0 rfl (lv_at hl 1 rfl) ?_
  refine lv_iload_n hx hb dX10_at_1 rfl (lv_at hl 2 rfl) ?_
  replace hf := xsBd_use hf
  obtain ⟨o1, h2, hf⟩ := hf
  refine xs_xcallv hS (xs_xrunS (As := [.int a0, .int a1]) C (mX10_checkPoint l hst  h2) w_983 w_984 w_105 w_985 hd_X10_checkPoint ⟨rfl, rfl, Nat.le_of_ble_eq_true rfl, Nat.le_of_ble_eq_true rfl, Nat.le_of_ble_eq_true rfl, Nat.le_of_ble_eq_true rfl⟩ hP hD hS hl.1 rfl (Nat.le_of_ble_eq_true rfl) dX10_at_2) (fun n u q H locs hpx hP hD hS hq => ?_) (fun u H locs hp hP hD hS => ?_)
  · obtain ⟨tx, e1, e2⟩ := hpx
    subst e1
    subst e2
    have ho := Option.some.inj hf
    subst ho
    rw [hXq]
    exact xs_xpass hlk hout ⟨_, rfl, rfl⟩ hP hD hS hq (Nat.le_of_ble_eq_true rfl) (Nat.le_of_ble_eq_true rfl)
  obtain ⟨v3, e1, e3⟩ := hp
  subst e1
  subst e3
  replace hf := xsTh_use hf
  refine W.widen (k := 1) (n := 6) (Nat.le_refl _) (Nat.le_refl _) ?_
  refine lv_iconst (v := (0 : Int32)) hx hb dX10_at_5 (by decide) ?_
  refine lv_istore_n (lv' := [(3, .int (0 : Int32)), (0, .ref (xsA X 0)), (1, .int a0), (2, .int a1)]) hx hb dX10_at_6 rfl hl (by decide) rfl (fun ls hl => ?_)
  refine lv_iconst (v := (0 : Int32)) hx hb dX10_at_7 (by decide) ?_
  refine lv_istore (lv' := [(4, .int (0 : Int32)), (3, .int (0 : Int32)), (0, .ref (xsA X 0)), (1, .int a0), (2, .int a1)]) hx hb dX10_at_8 hl (by decide) rfl (fun ls hl => ?_)
  have K6 : ∀ (y7 : Int32) (hf : fX10_at_J49 y7 = some out) (H : Heap) (locs : List Loc) (ls : Array Slot), va_P (xsD X) vwCl (wK X kIsKept kIsStale hiLatest hiSize scBytes scTold scLength scFault scAt scNumber piSegmentsNow enKind enX enY enLower enFromX enFromY enToX enToY tiTouching tiLyingAlong tiMeetingPairs tiAlongPairs tiSize evX evY evLower evBundle evCrossingOf evEventOf evLeftEvent evRightEvent evSize evCrossings evSegmentsNow grDegree grEdges grFar grQueue grQueued huX huY huSize huBestX huBestY S Rw) H → va_D (xsF X) (wK X kIsKept kIsStale hiLatest hiSize scBytes scTold scLength scFault scAt scNumber piSegmentsNow enKind enX enY enLower enFromX enFromY enToX enToY tiTouching tiLyingAlong tiMeetingPairs tiAlongPairs tiSize evX evY evLower evBundle evCrossingOf evEventOf evLeftEvent evRightEvent evSize evCrossings evSegmentsNow grDegree grEdges grFar grQueue grQueued huX huY huSize huBestX huBestY S Rw) → va_S (xsF X) s.heap H locs → lv_has ls 5 [(3, .int y7)] → W p l e { frames := 7, cells := 1, slots := 6, locals := 111 } s m ([.ref (xsA X 0), .int a0, .int a1] : List Value).toArray below meth c H locs 1 6 (vx_MQ below Qq Xq ([.ref (xsA X 0), .int a0, .int a1] : List Value).toArray s 1 6 (xsF X)) (F0 m 49 ls []) := by
    intro y7 hf H locs ls hP hD hS hl
    unfold fX10_at_J49 at hf
    refine lv_iload_n hx hb dX10_at_49 rfl (lv_at hl 0 rfl) ?_
    have ho := Option.some.inj hf
    subst ho
    rw [hQq]
    exact xs_xiret C hr hlk ⟨_, rfl, rfl, rfl⟩ hP hD hS (Nat.le_of_ble_eq_true rfl) (Nat.le_of_ble_eq_true rfl) dX10_at_50
  replace hf := xsBd_use hf
  obtain ⟨r6, hk60, hf⟩ := hf
  have L6 : ∀ (sg : Int32 × Int32) (rg : Int32), xsWh (fun s6 => fX10_at_L10 g0Lx g0Ly g0Rx g0Ry g0Sz a0 a1 s6.1 s6.2) sg = some rg → (fX10_at_J49 rg = some out → ∀ (H : Heap) (locs : List Loc) (ls : Array Slot), va_P (xsD X) vwCl (wK X kIsKept kIsStale hiLatest hiSize scBytes scTold scLength scFault scAt scNumber piSegmentsNow enKind enX enY enLower enFromX enFromY enToX enToY tiTouching tiLyingAlong tiMeetingPairs tiAlongPairs tiSize evX evY evLower evBundle evCrossingOf evEventOf evLeftEvent evRightEvent evSize evCrossings evSegmentsNow grDegree grEdges grFar grQueue grQueued huX huY huSize huBestX huBestY S Rw) H → va_D (xsF X) (wK X kIsKept kIsStale hiLatest hiSize scBytes scTold scLength scFault scAt scNumber piSegmentsNow enKind enX enY enLower enFromX enFromY enToX enToY tiTouching tiLyingAlong tiMeetingPairs tiAlongPairs tiSize evX evY evLower evBundle evCrossingOf evEventOf evLeftEvent evRightEvent evSize evCrossings evSegmentsNow grDegree grEdges grFar grQueue grQueued huX huY huSize huBestX huBestY S Rw) → va_S (xsF X) s.heap H locs → lv_has ls 5 [(0, .ref (xsA X 0)), (1, .int a0), (2, .int a1), (3, .int sg.1), (4, .int sg.2)] → W p l e { frames := 7, cells := 1, slots := 6, locals := 111 } s m ([.ref (xsA X 0), .int a0, .int a1] : List Value).toArray below meth c H locs 1 6 (vx_MQ below Qq Xq ([.ref (xsA X 0), .int a0, .int a1] : List Value).toArray s 1 6 (xsF X)) (F0 m 10 ls [])) := by
    refine xsWh_ind ?_
    intro sg r6 u6 hf ih6 hx6 hk6 H locs ls hP hD hS hl
    obtain ⟨y4, y5⟩ := sg
    replace hf : fX10_at_L10 g0Lx g0Ly g0Rx g0Ry g0Sz a0 a1 y4 y5 = some u6 := hf
    replace hl : lv_has ls 5 [(0, .ref (xsA X 0)), (1, .int a0), (2, .int a1), (3, .int y4), (4, .int y5)] := hl
    replace hP : va_P (xsD X) vwCl (wK X kIsKept kIsStale hiLatest hiSize scBytes scTold scLength scFault scAt scNumber piSegmentsNow enKind enX enY enLower enFromX enFromY enToX enToY tiTouching tiLyingAlong tiMeetingPairs tiAlongPairs tiSize evX evY evLower evBundle evCrossingOf evEventOf evLeftEvent evRightEvent evSize evCrossings evSegmentsNow grDegree grEdges grFar grQueue grQueued huX huY huSize huBestX huBestY S Rw) H := hP
    replace hD : va_D (xsF X) (wK X kIsKept kIsStale hiLatest hiSize scBytes scTold scLength scFault scAt scNumber piSegmentsNow enKind enX enY enLower enFromX enFromY enToX enToY tiTouching tiLyingAlong tiMeetingPairs tiAlongPairs tiSize evX evY evLower evBundle evCrossingOf evEventOf evLeftEvent evRightEvent evSize evCrossings evSegmentsNow grDegree grEdges grFar grQueue grQueued huX huY huSize huBestX huBestY S Rw) := hD
    unfold fX10_at_L10 at hf
    refine lv_iload hx hb dX10_at_10 (lv_at hl 4 rfl) ?_
    refine lv_aload_n hx hb dX10_at_12 rfl (lv_at hl 0 rfl) ?_
    refine xg_X10_10 C hP dX10_at_13 ?_
    refine xg_X10_119 (j := 0) (by decide) hs_0 C hP dX10_at_16 ?_
    refine lv_icmp_ge (tgt := 49) hx hb dX10_at_19 (by decide) (fun c17 => ?_) (fun c17 => ?_)
    · replace hf := xsBr_t c17 hf
      have ez := hx6 _ (Option.some.inj hf).symm
      subst ez
      exact K6 y4 hk6 H locs ls hP hD hS (lv_sub hl [3] rfl)
    · replace hf := xsBr_f c17 hf
      refine lv_aload_n hx hb dX10_at_22 rfl (lv_at hl 0 rfl) ?_
      refine xg_X10_10 C hP dX10_at_23 ?_
      refine lv_iload hx hb dX10_at_26 (lv_at hl 4 rfl) ?_
      refine lv_iload_n hx hb dX10_at_28 rfl (lv_at hl 1 rfl) ?_
      refine lv_iload_n hx hb dX10_at_29 rfl (lv_at hl 2 rfl) ?_
      replace hf := xsBd_use hf
      obtain ⟨o8, h9, hf⟩ := hf
      refine xs_calli hS (xs_runV (As := [.int y5, .int a0, .int a1]) C (mX7_hasPoint l (js := 0) (by decide) hs_0 h9) w_1263 w_1264 w_1265 w_106 w_1266 hd_X7_hasPoint ⟨rfl, rfl, Nat.le_of_ble_eq_true rfl, Nat.le_of_ble_eq_true rfl, Nat.le_of_ble_eq_true rfl, Nat.le_of_ble_eq_true rfl⟩ hP hD hS (xs_lkS (by decide)) rfl hl.1 rfl (Nat.le_of_ble_eq_true rfl) dX10_at_30) (fun H locs hP hD hS => ?_)
      have K14 : ∀ (y10 : Int32) (hf : fX10_at_J43 y5 y10 = some u6) (H : Heap) (locs : List Loc) (ls : Array Slot), va_P (xsD X) vwCl (wK X kIsKept kIsStale hiLatest hiSize scBytes scTold scLength scFault scAt scNumber piSegmentsNow enKind enX enY enLower enFromX enFromY enToX enToY tiTouching tiLyingAlong tiMeetingPairs tiAlongPairs tiSize evX evY evLower evBundle evCrossingOf evEventOf evLeftEvent evRightEvent evSize evCrossings evSegmentsNow grDegree grEdges grFar grQueue grQueued huX huY huSize huBestX huBestY S Rw) H → va_D (xsF X) (wK X kIsKept kIsStale hiLatest hiSize scBytes scTold scLength scFault scAt scNumber piSegmentsNow enKind enX enY enLower enFromX enFromY enToX enToY tiTouching tiLyingAlong tiMeetingPairs tiAlongPairs tiSize evX evY evLower evBundle evCrossingOf evEventOf evLeftEvent evRightEvent evSize evCrossings evSegmentsNow grDegree grEdges grFar grQueue grQueued huX huY huSize huBestX huBestY S Rw) → va_S (xsF X) s.heap H locs → lv_has ls 5 [(0, .ref (xsA X 0)), (1, .int a0), (2, .int a1), (3, .int y10), (4, .int y5)] → W p l e { frames := 7, cells := 1, slots := 6, locals := 111 } s m ([.ref (xsA X 0), .int a0, .int a1] : List Value).toArray below meth c H locs 1 6 (vx_MQ below Qq Xq ([.ref (xsA X 0), .int a0, .int a1] : List Value).toArray s 1 6 (xsF X)) (F0 m 43 ls []) := by
        intro y10 hf H locs ls hP hD hS hl
        unfold fX10_at_J43 at hf
        obtain ⟨x11, ex11⟩ : ∃ y : Int32, y = y5 + (1 : Int32) := ⟨_, rfl⟩
        replace hf := xsLt_use ex11 hf
        refine lv_iinc (v := x11) (lv' := [(4, .int x11), (0, .ref (xsA X 0)), (1, .int a0), (2, .int a1), (3, .int y10)]) hx hb dX10_at_43 hl (k := 4) rfl (by rw [ex11]; rfl) (by decide) rfl (fun ls hl => ?_)
        refine lv_goto (tgt := 10) hx hb dX10_at_46 (by decide) ?_
        exact ih6 _ (Option.some.inj hf).symm hk6 H locs ls hP hD hS (lv_sub hl [1, 2, 3, 4, 0] rfl)
      replace hf := xsBd_use hf
      obtain ⟨v12, hf, hk13⟩ := hf
      refine lv_if_eq (tgt := 43) hx hb dX10_at_33 (by decide) (fun c16 => ?_) (fun c16 => ?_)
      · replace hf := xsBr_t c16 hf
        have ev := Option.some.inj hf
        subst ev
        exact K14 y4 hk13 H locs ls hP hD hS (lv_sub hl [0, 1, 2, 3, 4] rfl)
      · replace hf := xsBr_f c16 hf
        refine lv_iload_n hx hb dX10_at_36 rfl (lv_at hl 3 rfl) ?_
        refine lv_iconst (v := (1 : Int32)) hx hb dX10_at_37 (by decide) ?_
        refine lv_iload hx hb dX10_at_38 (lv_at hl 4 rfl) ?_
        refine lv_ishl hx hb dX10_at_40 ?_
        refine lv_ior hx hb dX10_at_41 ?_
        refine lv_topi (fun x15 ex15 => ?_)
        replace hf := xsLt_use ex15 hf
        refine lv_istore_n (lv' := [(3, .int x15), (0, .ref (xsA X 0)), (1, .int a0), (2, .int a1), (4, .int y5)]) hx hb dX10_at_42 rfl hl (by decide) rfl (fun ls hl => ?_)
        have ev := Option.some.inj hf
        subst ev
        exact K14 x15 hk13 H locs ls hP hD hS (lv_sub hl [1, 2, 3, 0, 4] rfl)
  exact L6 ((0 : Int32), (0 : Int32)) r6 hk60 hf H locs ls hP hD hS (lv_sub hl [2, 3, 4, 1, 0] rfl)
set_option maxRecDepth 100000 in
set_option maxHeartbeats 8000000 in
theorem mX10_next (l : Launch) (hst : l.stackTraces = false) {X : xsX} {kIsKept kIsStale hiLatest hiSize scLength scFault scAt scNumber piSegmentsNow enKind enFromX enFromY enToX enToY tiMeetingPairs tiAlongPairs tiSize evSize evCrossings evSegmentsNow grEdges grQueued huSize huBestX huBestY : Int32} {scBytes scTold tiTouching tiLyingAlong evBundle evCrossingOf evEventOf evLeftEvent evRightEvent grDegree grFar grQueue huX huY : Nat → Int32} {enX enY enLower : Int64} {evX evY evLower : Nat → Int64} {S : Nat → xsV} {Rw : va_W} {g0Lx g0Ly g0Rx g0Ry g0Ti : Nat → Int32} {g0Sz : Int32} (hs_0 : S 0 = (g0Lx, g0Ly, g0Rx, g0Ry, g0Ti, g0Sz)) {a0 : Int32} {a1 : Int32} {a2 : Int32} {out : (Int32) ⊕ (Nat × (Unit))} (hf : fX10_next g0Lx g0Ly g0Rx g0Ry g0Sz a0 a1 a2 = some out) : vx_Met l yX10_next (xsWs yX10_next cX10_next 14 (some .int)) { frames := 7, cells := 1, slots := 6, locals := 111 } (xsP X (wK X kIsKept kIsStale hiLatest hiSize scBytes scTold scLength scFault scAt scNumber piSegmentsNow enKind enX enY enLower enFromX enFromY enToX enToY tiTouching tiLyingAlong tiMeetingPairs tiAlongPairs tiSize evX evY evLower evBundle evCrossingOf evEventOf evLeftEvent evRightEvent evSize evCrossings evSegmentsNow grDegree grEdges grFar grQueue grQueued huX huY huSize huBestX huBestY S Rw) [.ref (xsA X 0), .int a0, .int a1, .int a2]) (xsXi X (fun r u => ∃ tt, out = .inl tt ∧ r = tt ∧ u = wK X kIsKept kIsStale hiLatest hiSize scBytes scTold scLength scFault scAt scNumber piSegmentsNow enKind enX enY enLower enFromX enFromY enToX enToY tiTouching tiLyingAlong tiMeetingPairs tiAlongPairs tiSize evX evY evLower evBundle evCrossingOf evEventOf evLeftEvent evRightEvent evSize evCrossings evSegmentsNow grDegree grEdges grFar grQueue grQueued huX huY huSize huBestX huBestY S Rw)) (xsXC X (fun n u => ∃ tt, out = .inr (n, tt) ∧ u = wK X kIsKept kIsStale hiLatest hiSize scBytes scTold scLength scFault scAt scNumber piSegmentsNow enKind enX enY enLower enFromX enFromY enToX enToY tiTouching tiLyingAlong tiMeetingPairs tiAlongPairs tiSize evX evY evLower evBundle evCrossingOf evEventOf evLeftEvent evRightEvent evSize evCrossings evSegmentsNow grDegree grEdges grFar grQueue grQueued huX huY huSize huBestX huBestY S Rw)) 1 6 (xsF X) := by
  refine xs_xmet RX10 (by decide) rfl (Nat.le_of_ble_eq_true rfl) ?_
  intro p e s m below meth c ls H locs C hout hP hD hS hr hlk hl
  have hx := C.1
  have hb := C.2.1
  have hl : lv_has ls 14 [(0, .ref (xsA X 0)), (1, .int a0), (2, .int a1), (3, .int a2)] := hl
  obtain ⟨Qq, hQq⟩ : ∃ Qq, Qq = xsXi X (fun r u => ∃ tt, out = .inl tt ∧ r = tt ∧ u = wK X kIsKept kIsStale hiLatest hiSize scBytes scTold scLength scFault scAt scNumber piSegmentsNow enKind enX enY enLower enFromX enFromY enToX enToY tiTouching tiLyingAlong tiMeetingPairs tiAlongPairs tiSize evX evY evLower evBundle evCrossingOf evEventOf evLeftEvent evRightEvent evSize evCrossings evSegmentsNow grDegree grEdges grFar grQueue grQueued huX huY huSize huBestX huBestY S Rw) := ⟨_, rfl⟩
  rw [← hQq]
  obtain ⟨Xq, hXq⟩ : ∃ Xq, Xq = xsXC X (fun n u => ∃ tt, out = .inr (n, tt) ∧ u = wK X kIsKept kIsStale hiLatest hiSize scBytes scTold scLength scFault scAt scNumber piSegmentsNow enKind enX enY enLower enFromX enFromY enToX enToY tiTouching tiLyingAlong tiMeetingPairs tiAlongPairs tiSize evX evY evLower evBundle evCrossingOf evEventOf evLeftEvent evRightEvent evSize evCrossings evSegmentsNow grDegree grEdges grFar grQueue grQueued huX huY huSize huBestX huBestY S Rw) := ⟨_, rfl⟩
  rw [← hXq]
  unfold fX10_next at hf
  refine lv_iload_n hx hb dX10_next_0 rfl (lv_at hl 1 rfl) ?_
  refine lv_iload_n hx hb dX10_next_1 rfl (lv_at hl 2 rfl) ?_
  replace hf := xsBd_use hf
  obtain ⟨o1, h2, hf⟩ := hf
  refine xs_xcallv hS (xs_xrunS (As := [.int a0, .int a1]) C (mX10_checkPoint l hst  h2) w_983 w_984 w_105 w_985 hd_X10_checkPoint ⟨rfl, rfl, Nat.le_of_ble_eq_true rfl, Nat.le_of_ble_eq_true rfl, Nat.le_of_ble_eq_true rfl, Nat.le_of_ble_eq_true rfl⟩ hP hD hS hl.1 rfl (Nat.le_of_ble_eq_true rfl) dX10_next_2) (fun n u q H locs hpx hP hD hS hq => ?_) (fun u H locs hp hP hD hS => ?_)
  · obtain ⟨tx, e1, e2⟩ := hpx
    subst e1
    subst e2
    have ho := Option.some.inj hf
    subst ho
    rw [hXq]
    exact xs_xpass hlk hout ⟨_, rfl, rfl⟩ hP hD hS hq (Nat.le_of_ble_eq_true rfl) (Nat.le_of_ble_eq_true rfl)
  obtain ⟨v3, e1, e3⟩ := hp
  subst e1
  subst e3
  replace hf := xsTh_use hf
  refine W.widen (k := 1) (n := 6) (Nat.le_refl _) (Nat.le_refl _) ?_
  refine lv_iconst (v := (-1 : Int32)) hx hb dX10_next_5 (by decide) ?_
  refine lv_istore (lv' := [(4, .int (-1 : Int32)), (0, .ref (xsA X 0)), (1, .int a0), (2, .int a1), (3, .int a2)]) hx hb dX10_next_6 hl (by decide) rfl (fun ls hl => ?_)
  refine lv_lconst (v := (0 : Int64)) hx hb dX10_next_8 (by decide) ?_
  refine lv_lstore (lv' := [(5, .long (0 : Int64)), (4, .int (-1 : Int32)), (0, .ref (xsA X 0)), (1, .int a0), (2, .int a1), (3, .int a2)]) hx hb dX10_next_9 hl (by decide) rfl (fun ls hl => ?_)
  refine lv_lconst (v := (1 : Int64)) hx hb dX10_next_11 (by decide) ?_
  refine lv_lstore (lv' := [(7, .long (1 : Int64)), (5, .long (0 : Int64)), (4, .int (-1 : Int32)), (0, .ref (xsA X 0)), (1, .int a0), (2, .int a1), (3, .int a2)]) hx hb dX10_next_12 hl (by decide) rfl (fun ls hl => ?_)
  refine lv_iconst (v := (0 : Int32)) hx hb dX10_next_14 (by decide) ?_
  refine lv_istore (lv' := [(9, .int (0 : Int32)), (7, .long (1 : Int64)), (5, .long (0 : Int64)), (4, .int (-1 : Int32)), (0, .ref (xsA X 0)), (1, .int a0), (2, .int a1), (3, .int a2)]) hx hb dX10_next_15 hl (by decide) rfl (fun ls hl => ?_)
  have K8 : ∀ (y9 : Int32) (hf : fX10_next_J133 y9 = some out) (H : Heap) (locs : List Loc) (ls : Array Slot), va_P (xsD X) vwCl (wK X kIsKept kIsStale hiLatest hiSize scBytes scTold scLength scFault scAt scNumber piSegmentsNow enKind enX enY enLower enFromX enFromY enToX enToY tiTouching tiLyingAlong tiMeetingPairs tiAlongPairs tiSize evX evY evLower evBundle evCrossingOf evEventOf evLeftEvent evRightEvent evSize evCrossings evSegmentsNow grDegree grEdges grFar grQueue grQueued huX huY huSize huBestX huBestY S Rw) H → va_D (xsF X) (wK X kIsKept kIsStale hiLatest hiSize scBytes scTold scLength scFault scAt scNumber piSegmentsNow enKind enX enY enLower enFromX enFromY enToX enToY tiTouching tiLyingAlong tiMeetingPairs tiAlongPairs tiSize evX evY evLower evBundle evCrossingOf evEventOf evLeftEvent evRightEvent evSize evCrossings evSegmentsNow grDegree grEdges grFar grQueue grQueued huX huY huSize huBestX huBestY S Rw) → va_S (xsF X) s.heap H locs → lv_has ls 14 [(4, .int y9)] → W p l e { frames := 7, cells := 1, slots := 6, locals := 111 } s m ([.ref (xsA X 0), .int a0, .int a1, .int a2] : List Value).toArray below meth c H locs 1 6 (vx_MQ below Qq Xq ([.ref (xsA X 0), .int a0, .int a1, .int a2] : List Value).toArray s 1 6 (xsF X)) (F0 m 133 ls []) := by
    intro y9 hf H locs ls hP hD hS hl
    unfold fX10_next_J133 at hf
    refine lv_iload hx hb dX10_next_133 (lv_at hl 0 rfl) ?_
    have ho := Option.some.inj hf
    subst ho
    rw [hQq]
    exact xs_xiret C hr hlk ⟨_, rfl, rfl, rfl⟩ hP hD hS (Nat.le_of_ble_eq_true rfl) (Nat.le_of_ble_eq_true rfl) dX10_next_135
  replace hf := xsBd_use hf
  obtain ⟨r8, hk80, hf⟩ := hf
  have L8 : ∀ (sg : Int32 × Int64 × Int64 × Int32) (rg : Int32), xsWh (fun s8 => fX10_next_L17 g0Lx g0Ly g0Rx g0Ry g0Sz a0 a1 a2 s8.1 s8.2.1 s8.2.2.1 s8.2.2.2) sg = some rg → (fX10_next_J133 rg = some out → ∀ (H : Heap) (locs : List Loc) (ls : Array Slot), va_P (xsD X) vwCl (wK X kIsKept kIsStale hiLatest hiSize scBytes scTold scLength scFault scAt scNumber piSegmentsNow enKind enX enY enLower enFromX enFromY enToX enToY tiTouching tiLyingAlong tiMeetingPairs tiAlongPairs tiSize evX evY evLower evBundle evCrossingOf evEventOf evLeftEvent evRightEvent evSize evCrossings evSegmentsNow grDegree grEdges grFar grQueue grQueued huX huY huSize huBestX huBestY S Rw) H → va_D (xsF X) (wK X kIsKept kIsStale hiLatest hiSize scBytes scTold scLength scFault scAt scNumber piSegmentsNow enKind enX enY enLower enFromX enFromY enToX enToY tiTouching tiLyingAlong tiMeetingPairs tiAlongPairs tiSize evX evY evLower evBundle evCrossingOf evEventOf evLeftEvent evRightEvent evSize evCrossings evSegmentsNow grDegree grEdges grFar grQueue grQueued huX huY huSize huBestX huBestY S Rw) → va_S (xsF X) s.heap H locs → lv_has ls 14 [(0, .ref (xsA X 0)), (1, .int a0), (2, .int a1), (3, .int a2), (4, .int sg.1), (5, .long sg.2.1), (7, .long sg.2.2.1), (9, .int sg.2.2.2)] → W p l e { frames := 7, cells := 1, slots := 6, locals := 111 } s m ([.ref (xsA X 0), .int a0, .int a1, .int a2] : List Value).toArray below meth c H locs 1 6 (vx_MQ below Qq Xq ([.ref (xsA X 0), .int a0, .int a1, .int a2] : List Value).toArray s 1 6 (xsF X)) (F0 m 17 ls [])) := by
    refine xsWh_ind ?_
    intro sg r8 u8 hf ih8 hx8 hk8 H locs ls hP hD hS hl
    obtain ⟨y4, y5, y6, y7⟩ := sg
    replace hf : fX10_next_L17 g0Lx g0Ly g0Rx g0Ry g0Sz a0 a1 a2 y4 y5 y6 y7 = some u8 := hf
    replace hl : lv_has ls 14 [(0, .ref (xsA X 0)), (1, .int a0), (2, .int a1), (3, .int a2), (4, .int y4), (5, .long y5), (7, .long y6), (9, .int y7)] := hl
    replace hP : va_P (xsD X) vwCl (wK X kIsKept kIsStale hiLatest hiSize scBytes scTold scLength scFault scAt scNumber piSegmentsNow enKind enX enY enLower enFromX enFromY enToX enToY tiTouching tiLyingAlong tiMeetingPairs tiAlongPairs tiSize evX evY evLower evBundle evCrossingOf evEventOf evLeftEvent evRightEvent evSize evCrossings evSegmentsNow grDegree grEdges grFar grQueue grQueued huX huY huSize huBestX huBestY S Rw) H := hP
    replace hD : va_D (xsF X) (wK X kIsKept kIsStale hiLatest hiSize scBytes scTold scLength scFault scAt scNumber piSegmentsNow enKind enX enY enLower enFromX enFromY enToX enToY tiTouching tiLyingAlong tiMeetingPairs tiAlongPairs tiSize evX evY evLower evBundle evCrossingOf evEventOf evLeftEvent evRightEvent evSize evCrossings evSegmentsNow grDegree grEdges grFar grQueue grQueued huX huY huSize huBestX huBestY S Rw) := hD
    unfold fX10_next_L17 at hf
    refine lv_iload hx hb dX10_next_17 (lv_at hl 7 rfl) ?_
    refine lv_aload_n hx hb dX10_next_19 rfl (lv_at hl 0 rfl) ?_
    refine xg_X10_10 C hP dX10_next_20 ?_
    refine xg_X10_119 (j := 0) (by decide) hs_0 C hP dX10_next_23 ?_
    refine lv_icmp_ge (tgt := 133) hx hb dX10_next_26 (by decide) (fun c34 => ?_) (fun c34 => ?_)
    · replace hf := xsBr_t c34 hf
      have ez := hx8 _ (Option.some.inj hf).symm
      subst ez
      exact K8 y4 hk8 H locs ls hP hD hS (lv_sub hl [4] rfl)
    · replace hf := xsBr_f c34 hf
      refine lv_aload_n hx hb dX10_next_29 rfl (lv_at hl 0 rfl) ?_
      refine xg_X10_10 C hP dX10_next_30 ?_
      refine lv_iload hx hb dX10_next_33 (lv_at hl 7 rfl) ?_
      refine lv_iload_n hx hb dX10_next_35 rfl (lv_at hl 1 rfl) ?_
      replace hf := xsBd_use hf
      obtain ⟨o10, h11, hf⟩ := hf
      refine xs_calli hS (xs_runV (As := [.int y7, .int a0]) C (mX7_spansX l (js := 0) (by decide) hs_0 h11) w_1282 w_1268 w_1269 w_106 w_1270 hd_X7_spansX ⟨rfl, rfl, Nat.le_of_ble_eq_true rfl, Nat.le_of_ble_eq_true rfl, Nat.le_of_ble_eq_true rfl, Nat.le_of_ble_eq_true rfl⟩ hP hD hS (xs_lkS (by decide)) rfl hl.1 rfl (Nat.le_of_ble_eq_true rfl) dX10_next_36) (fun H locs hP hD hS => ?_)
      have K18 : ∀ (y12 : Int32) (y13 : Int64) (y14 : Int64) (hf : fX10_next_J127 y7 y12 y13 y14 = some u8) (H : Heap) (locs : List Loc) (ls : Array Slot), va_P (xsD X) vwCl (wK X kIsKept kIsStale hiLatest hiSize scBytes scTold scLength scFault scAt scNumber piSegmentsNow enKind enX enY enLower enFromX enFromY enToX enToY tiTouching tiLyingAlong tiMeetingPairs tiAlongPairs tiSize evX evY evLower evBundle evCrossingOf evEventOf evLeftEvent evRightEvent evSize evCrossings evSegmentsNow grDegree grEdges grFar grQueue grQueued huX huY huSize huBestX huBestY S Rw) H → va_D (xsF X) (wK X kIsKept kIsStale hiLatest hiSize scBytes scTold scLength scFault scAt scNumber piSegmentsNow enKind enX enY enLower enFromX enFromY enToX enToY tiTouching tiLyingAlong tiMeetingPairs tiAlongPairs tiSize evX evY evLower evBundle evCrossingOf evEventOf evLeftEvent evRightEvent evSize evCrossings evSegmentsNow grDegree grEdges grFar grQueue grQueued huX huY huSize huBestX huBestY S Rw) → va_S (xsF X) s.heap H locs → lv_has ls 14 [(0, .ref (xsA X 0)), (1, .int a0), (2, .int a1), (3, .int a2), (4, .int y12), (5, .long y13), (7, .long y14), (9, .int y7)] → W p l e { frames := 7, cells := 1, slots := 6, locals := 111 } s m ([.ref (xsA X 0), .int a0, .int a1, .int a2] : List Value).toArray below meth c H locs 1 6 (vx_MQ below Qq Xq ([.ref (xsA X 0), .int a0, .int a1, .int a2] : List Value).toArray s 1 6 (xsF X)) (F0 m 127 ls []) := by
        intro y12 y13 y14 hf H locs ls hP hD hS hl
        unfold fX10_next_J127 at hf
        obtain ⟨x15, ex15⟩ : ∃ y : Int32, y = y7 + (1 : Int32) := ⟨_, rfl⟩
        replace hf := xsLt_use ex15 hf
        refine lv_iinc (v := x15) (lv' := [(9, .int x15), (0, .ref (xsA X 0)), (1, .int a0), (2, .int a1), (3, .int a2), (4, .int y12), (5, .long y13), (7, .long y14)]) hx hb dX10_next_127 hl (k := 7) rfl (by rw [ex15]; rfl) (by decide) rfl (fun ls hl => ?_)
        refine lv_goto (tgt := 17) hx hb dX10_next_130 (by decide) ?_
        exact ih8 _ (Option.some.inj hf).symm hk8 H locs ls hP hD hS (lv_sub hl [1, 2, 3, 4, 5, 6, 7, 0] rfl)
      replace hf := xsBd_use hf
      obtain ⟨v16, hf, hk17⟩ := hf
      refine lv_if_ne (tgt := 45) hx hb dX10_next_39 (by decide) (fun c33 => ?_) (fun c33 => ?_)
      · replace hf := xsBr_f c33 hf
        refine lv_iload_n hx hb dX10_next_45 rfl (lv_at hl 3 rfl) ?_
        have K27 : ∀ (y19 : Int64) (hf : fX10_next_J75 g0Lx g0Rx y4 y5 y6 y7 y19 = some v16) (H : Heap) (locs : List Loc) (ls : Array Slot), va_P (xsD X) vwCl (wK X kIsKept kIsStale hiLatest hiSize scBytes scTold scLength scFault scAt scNumber piSegmentsNow enKind enX enY enLower enFromX enFromY enToX enToY tiTouching tiLyingAlong tiMeetingPairs tiAlongPairs tiSize evX evY evLower evBundle evCrossingOf evEventOf evLeftEvent evRightEvent evSize evCrossings evSegmentsNow grDegree grEdges grFar grQueue grQueued huX huY huSize huBestX huBestY S Rw) H → va_D (xsF X) (wK X kIsKept kIsStale hiLatest hiSize scBytes scTold scLength scFault scAt scNumber piSegmentsNow enKind enX enY enLower enFromX enFromY enToX enToY tiTouching tiLyingAlong tiMeetingPairs tiAlongPairs tiSize evX evY evLower evBundle evCrossingOf evEventOf evLeftEvent evRightEvent evSize evCrossings evSegmentsNow grDegree grEdges grFar grQueue grQueued huX huY huSize huBestX huBestY S Rw) → va_S (xsF X) s.heap H locs → lv_has ls 14 [(0, .ref (xsA X 0)), (1, .int a0), (2, .int a1), (3, .int a2), (4, .int y4), (5, .long y5), (7, .long y6), (9, .int y7)] → W p l e { frames := 7, cells := 1, slots := 6, locals := 111 } s m ([.ref (xsA X 0), .int a0, .int a1, .int a2] : List Value).toArray below meth c H locs 1 6 (vx_MQ below Qq Xq ([.ref (xsA X 0), .int a0, .int a1, .int a2] : List Value).toArray s 1 6 (xsF X)) (F0 m 75 ls [.long y19]) := by
          intro y19 hf H locs ls hP hD hS hl
          unfold fX10_next_J75 at hf
          refine lv_lstore (lv' := [(10, .long y19), (0, .ref (xsA X 0)), (1, .int a0), (2, .int a1), (3, .int a2), (4, .int y4), (5, .long y5), (7, .long y6), (9, .int y7)]) hx hb dX10_next_75 hl (by decide) rfl (fun ls hl => ?_)
          refine lv_aload_n hx hb dX10_next_77 rfl (lv_at hl 1 rfl) ?_
          refine xg_X10_10 C hP dX10_next_78 ?_
          refine lv_iload hx hb dX10_next_81 (lv_at hl 8 rfl) ?_
          replace hf := xsBd_use hf
          obtain ⟨o20, h21, hf⟩ := hf
          refine xs_calll hS (xs_runV (As := [.int y7]) C (mX7_partsOfGap l (js := 0) (by decide) hs_0 h21) w_1284 w_1285 w_1286 w_106 w_1287 hd_X7_partsOfGap ⟨rfl, rfl, Nat.le_of_ble_eq_true rfl, Nat.le_of_ble_eq_true rfl, Nat.le_of_ble_eq_true rfl, Nat.le_of_ble_eq_true rfl⟩ hP hD hS (xs_lkS (by decide)) rfl hl.1 rfl (Nat.le_of_ble_eq_true rfl) dX10_next_83) (fun H locs hP hD hS => ?_)
          refine lv_lstore (lv' := [(12, .long o20), (10, .long y19), (0, .ref (xsA X 0)), (1, .int a0), (2, .int a1), (3, .int a2), (4, .int y4), (5, .long y5), (7, .long y6), (9, .int y7)]) hx hb dX10_next_86 hl (by decide) rfl (fun ls hl => ?_)
          refine lv_lload hx hb dX10_next_88 (lv_at hl 1 rfl) ?_
          refine lv_lconst (v := (0 : Int64)) hx hb dX10_next_90 (by decide) ?_
          refine xs_lcmp_le (tgt := 127) C dX10_next_91 dX10_next_92 (by decide) (fun c24 => ?_) (fun c24 => ?_)
          · replace hf := xsBr_t c24 hf
            have ev := Option.some.inj hf
            subst ev
            exact K18 y4 y5 y6 hk17 H locs ls hP hD hS (lv_sub hl [2, 3, 4, 5, 6, 7, 8, 9] rfl)
          · replace hf := xsBr_f c24 hf
            refine lv_iload hx hb dX10_next_95 (lv_at hl 6 rfl) ?_
            refine lv_iconst (v := (-1 : Int32)) hx hb dX10_next_97 (by decide) ?_
            refine lv_icmp_eq (tgt := 115) hx hb dX10_next_98 (by decide) (fun c23 => ?_) (fun c23 => ?_)
            · replace hf := xsBr_t c23 hf
              refine lv_iload hx hb dX10_next_115 (lv_at hl 9 rfl) ?_
              refine lv_istore (lv' := [(4, .int y7), (12, .long o20), (10, .long y19), (0, .ref (xsA X 0)), (1, .int a0), (2, .int a1), (3, .int a2), (5, .long y5), (7, .long y6), (9, .int y7)]) hx hb dX10_next_117 hl (by decide) rfl (fun ls hl => ?_)
              refine lv_lload hx hb dX10_next_119 (lv_at hl 2 rfl) ?_
              refine lv_lstore (lv' := [(5, .long y19), (4, .int y7), (12, .long o20), (10, .long y19), (0, .ref (xsA X 0)), (1, .int a0), (2, .int a1), (3, .int a2), (7, .long y6), (9, .int y7)]) hx hb dX10_next_121 hl (by decide) rfl (fun ls hl => ?_)
              refine lv_lload hx hb dX10_next_123 (lv_at hl 2 rfl) ?_
              refine lv_lstore (lv' := [(7, .long o20), (5, .long y19), (4, .int y7), (12, .long o20), (10, .long y19), (0, .ref (xsA X 0)), (1, .int a0), (2, .int a1), (3, .int a2), (9, .int y7)]) hx hb dX10_next_125 hl (by decide) rfl (fun ls hl => ?_)
              have ev := Option.some.inj hf
              subst ev
              exact K18 y7 y19 o20 hk17 H locs ls hP hD hS (lv_sub hl [5, 6, 7, 8, 2, 1, 0, 9] rfl)
            · replace hf := xsBr_f c23 hf
              refine lv_lload hx hb dX10_next_101 (lv_at hl 1 rfl) ?_
              refine lv_lload hx hb dX10_next_103 (lv_at hl 8 rfl) ?_
              refine lv_lmul hx hb dX10_next_105 ?_
              refine lv_lload hx hb dX10_next_106 (lv_at hl 7 rfl) ?_
              refine lv_lload hx hb dX10_next_108 (lv_at hl 0 rfl) ?_
              refine lv_lmul hx hb dX10_next_110 ?_
              refine xs_lcmp_ge (tgt := 127) C dX10_next_111 dX10_next_112 (by decide) (fun c22 => ?_) (fun c22 => ?_)
              · replace hf := xsBr_t c22 hf
                have ev := Option.some.inj hf
                subst ev
                exact K18 y4 y5 y6 hk17 H locs ls hP hD hS (lv_sub hl [2, 3, 4, 5, 6, 7, 8, 9] rfl)
              · replace hf := xsBr_f c22 hf
                refine lv_iload hx hb dX10_next_115 (lv_at hl 9 rfl) ?_
                refine lv_istore (lv' := [(4, .int y7), (12, .long o20), (10, .long y19), (0, .ref (xsA X 0)), (1, .int a0), (2, .int a1), (3, .int a2), (5, .long y5), (7, .long y6), (9, .int y7)]) hx hb dX10_next_117 hl (by decide) rfl (fun ls hl => ?_)
                refine lv_lload hx hb dX10_next_119 (lv_at hl 2 rfl) ?_
                refine lv_lstore (lv' := [(5, .long y19), (4, .int y7), (12, .long o20), (10, .long y19), (0, .ref (xsA X 0)), (1, .int a0), (2, .int a1), (3, .int a2), (7, .long y6), (9, .int y7)]) hx hb dX10_next_121 hl (by decide) rfl (fun ls hl => ?_)
                refine lv_lload hx hb dX10_next_123 (lv_at hl 2 rfl) ?_
                refine lv_lstore (lv' := [(7, .long o20), (5, .long y19), (4, .int y7), (12, .long o20), (10, .long y19), (0, .ref (xsA X 0)), (1, .int a0), (2, .int a1), (3, .int a2), (9, .int y7)]) hx hb dX10_next_125 hl (by decide) rfl (fun ls hl => ?_)
                have ev := Option.some.inj hf
                subst ev
                exact K18 y7 y19 o20 hk17 H locs ls hP hD hS (lv_sub hl [5, 6, 7, 8, 2, 1, 0, 9] rfl)
        replace hf := xsBd_use hf
        obtain ⟨v25, hf, hk26⟩ := hf
        refine lv_if_eq (tgt := 63) hx hb dX10_next_46 (by decide) (fun c32 => ?_) (fun c32 => ?_)
        · replace hf := xsBr_t c32 hf
          refine lv_aload_n hx hb dX10_next_63 rfl (lv_at hl 0 rfl) ?_
          refine xg_X10_10 C hP dX10_next_64 ?_
          refine lv_iload hx hb dX10_next_67 (lv_at hl 7 rfl) ?_
          refine lv_iload_n hx hb dX10_next_69 rfl (lv_at hl 1 rfl) ?_
          refine lv_iload_n hx hb dX10_next_70 rfl (lv_at hl 2 rfl) ?_
          replace hf := xsBd_use hf
          obtain ⟨o28, h29, hf⟩ := hf
          refine xs_calll hS (xs_runV (As := [.int y7, .int a0, .int a1]) C (mX7_gapAbove l (js := 0) (by decide) hs_0 h29) w_1283 w_1272 w_1273 w_106 w_1274 hd_X7_gapAbove ⟨rfl, rfl, Nat.le_of_ble_eq_true rfl, Nat.le_of_ble_eq_true rfl, Nat.le_of_ble_eq_true rfl, Nat.le_of_ble_eq_true rfl⟩ hP hD hS (xs_lkS (by decide)) rfl hl.1 rfl (Nat.le_of_ble_eq_true rfl) dX10_next_71) (fun H locs hP hD hS => ?_)
          refine lv_lneg hx hb dX10_next_74 ?_
          have ev := Option.some.inj hf
          subst ev
          exact K27 (-o28) hk26 H locs ls hP hD hS (lv_sub hl [0, 1, 2, 3, 4, 5, 6, 7] rfl)
        · replace hf := xsBr_f c32 hf
          refine lv_aload_n hx hb dX10_next_49 rfl (lv_at hl 0 rfl) ?_
          refine xg_X10_10 C hP dX10_next_50 ?_
          refine lv_iload hx hb dX10_next_53 (lv_at hl 7 rfl) ?_
          refine lv_iload_n hx hb dX10_next_55 rfl (lv_at hl 1 rfl) ?_
          refine lv_iload_n hx hb dX10_next_56 rfl (lv_at hl 2 rfl) ?_
          replace hf := xsBd_use hf
          obtain ⟨o30, h31, hf⟩ := hf
          refine xs_calll hS (xs_runV (As := [.int y7, .int a0, .int a1]) C (mX7_gapAbove l (js := 0) (by decide) hs_0 h31) w_1283 w_1272 w_1273 w_106 w_1274 hd_X7_gapAbove ⟨rfl, rfl, Nat.le_of_ble_eq_true rfl, Nat.le_of_ble_eq_true rfl, Nat.le_of_ble_eq_true rfl, Nat.le_of_ble_eq_true rfl⟩ hP hD hS (xs_lkS (by decide)) rfl hl.1 rfl (Nat.le_of_ble_eq_true rfl) dX10_next_57) (fun H locs hP hD hS => ?_)
          refine lv_goto (tgt := 75) hx hb dX10_next_60 (by decide) ?_
          have ev := Option.some.inj hf
          subst ev
          exact K27 o30 hk26 H locs ls hP hD hS (lv_sub hl [0, 1, 2, 3, 4, 5, 6, 7] rfl)
      · replace hf := xsBr_t c33 hf
        refine lv_goto (tgt := 127) hx hb dX10_next_42 (by decide) ?_
        have ev := Option.some.inj hf
        subst ev
        exact K18 y4 y5 y6 hk17 H locs ls hP hD hS (lv_sub hl [0, 1, 2, 3, 4, 5, 6, 7] rfl)
  exact L8 ((-1 : Int32), (0 : Int64), (1 : Int64), (0 : Int32)) r8 hk80 hf H locs ls hP hD hS (lv_sub hl [4, 5, 6, 7, 3, 2, 1, 0] rfl)
set_option maxRecDepth 100000 in
set_option maxHeartbeats 8000000 in
theorem mX10_over (l : Launch) (hst : l.stackTraces = false) {X : xsX} {kIsKept kIsStale hiLatest hiSize scLength scFault scAt scNumber piSegmentsNow enKind enFromX enFromY enToX enToY tiMeetingPairs tiAlongPairs tiSize evSize evCrossings evSegmentsNow grEdges grQueued huSize huBestX huBestY : Int32} {scBytes scTold tiTouching tiLyingAlong evBundle evCrossingOf evEventOf evLeftEvent evRightEvent grDegree grFar grQueue huX huY : Nat → Int32} {enX enY enLower : Int64} {evX evY evLower : Nat → Int64} {S : Nat → xsV} {Rw : va_W} {g0Lx g0Ly g0Rx g0Ry g0Ti : Nat → Int32} {g0Sz : Int32} (hs_0 : S 0 = (g0Lx, g0Ly, g0Rx, g0Ry, g0Ti, g0Sz)) {a0 : Int32} {a1 : Int32} {out : (Int32) ⊕ (Nat × (Unit))} (hf : fX10_over g0Lx g0Ly g0Rx g0Ry g0Sz a0 a1 = some out) : vx_Met l yX10_over (xsWs yX10_over cX10_over 6 (some .int)) { frames := 7, cells := 1, slots := 6, locals := 111 } (xsP X (wK X kIsKept kIsStale hiLatest hiSize scBytes scTold scLength scFault scAt scNumber piSegmentsNow enKind enX enY enLower enFromX enFromY enToX enToY tiTouching tiLyingAlong tiMeetingPairs tiAlongPairs tiSize evX evY evLower evBundle evCrossingOf evEventOf evLeftEvent evRightEvent evSize evCrossings evSegmentsNow grDegree grEdges grFar grQueue grQueued huX huY huSize huBestX huBestY S Rw) [.ref (xsA X 0), .int a0, .int a1]) (xsXi X (fun r u => ∃ tt, out = .inl tt ∧ r = tt ∧ u = wK X kIsKept kIsStale hiLatest hiSize scBytes scTold scLength scFault scAt scNumber piSegmentsNow enKind enX enY enLower enFromX enFromY enToX enToY tiTouching tiLyingAlong tiMeetingPairs tiAlongPairs tiSize evX evY evLower evBundle evCrossingOf evEventOf evLeftEvent evRightEvent evSize evCrossings evSegmentsNow grDegree grEdges grFar grQueue grQueued huX huY huSize huBestX huBestY S Rw)) (xsXC X (fun n u => ∃ tt, out = .inr (n, tt) ∧ u = wK X kIsKept kIsStale hiLatest hiSize scBytes scTold scLength scFault scAt scNumber piSegmentsNow enKind enX enY enLower enFromX enFromY enToX enToY tiTouching tiLyingAlong tiMeetingPairs tiAlongPairs tiSize evX evY evLower evBundle evCrossingOf evEventOf evLeftEvent evRightEvent evSize evCrossings evSegmentsNow grDegree grEdges grFar grQueue grQueued huX huY huSize huBestX huBestY S Rw)) 1 6 (xsF X) := by
  refine xs_xmet RX10 (by decide) rfl (Nat.le_of_ble_eq_true rfl) ?_
  intro p e s m below meth c ls H locs C hout hP hD hS hr hlk hl
  have hx := C.1
  have hb := C.2.1
  have hl : lv_has ls 6 [(0, .ref (xsA X 0)), (1, .int a0), (2, .int a1)] := hl
  obtain ⟨Qq, hQq⟩ : ∃ Qq, Qq = xsXi X (fun r u => ∃ tt, out = .inl tt ∧ r = tt ∧ u = wK X kIsKept kIsStale hiLatest hiSize scBytes scTold scLength scFault scAt scNumber piSegmentsNow enKind enX enY enLower enFromX enFromY enToX enToY tiTouching tiLyingAlong tiMeetingPairs tiAlongPairs tiSize evX evY evLower evBundle evCrossingOf evEventOf evLeftEvent evRightEvent evSize evCrossings evSegmentsNow grDegree grEdges grFar grQueue grQueued huX huY huSize huBestX huBestY S Rw) := ⟨_, rfl⟩
  rw [← hQq]
  obtain ⟨Xq, hXq⟩ : ∃ Xq, Xq = xsXC X (fun n u => ∃ tt, out = .inr (n, tt) ∧ u = wK X kIsKept kIsStale hiLatest hiSize scBytes scTold scLength scFault scAt scNumber piSegmentsNow enKind enX enY enLower enFromX enFromY enToX enToY tiTouching tiLyingAlong tiMeetingPairs tiAlongPairs tiSize evX evY evLower evBundle evCrossingOf evEventOf evLeftEvent evRightEvent evSize evCrossings evSegmentsNow grDegree grEdges grFar grQueue grQueued huX huY huSize huBestX huBestY S Rw) := ⟨_, rfl⟩
  rw [← hXq]
  unfold fX10_over at hf
  refine lv_iload_n hx hb dX10_over_0 rfl (lv_at hl 1 rfl) ?_
  refine lv_iload_n hx hb dX10_over_1 rfl (lv_at hl 2 rfl) ?_
  replace hf := xsBd_use hf
  obtain ⟨o1, h2, hf⟩ := hf
  refine xs_xcallv hS (xs_xrunS (As := [.int a0, .int a1]) C (mX10_checkPoint l hst  h2) w_983 w_984 w_105 w_985 hd_X10_checkPoint ⟨rfl, rfl, Nat.le_of_ble_eq_true rfl, Nat.le_of_ble_eq_true rfl, Nat.le_of_ble_eq_true rfl, Nat.le_of_ble_eq_true rfl⟩ hP hD hS hl.1 rfl (Nat.le_of_ble_eq_true rfl) dX10_over_2) (fun n u q H locs hpx hP hD hS hq => ?_) (fun u H locs hp hP hD hS => ?_)
  · obtain ⟨tx, e1, e2⟩ := hpx
    subst e1
    subst e2
    have ho := Option.some.inj hf
    subst ho
    rw [hXq]
    exact xs_xpass hlk hout ⟨_, rfl, rfl⟩ hP hD hS hq (Nat.le_of_ble_eq_true rfl) (Nat.le_of_ble_eq_true rfl)
  obtain ⟨v3, e1, e3⟩ := hp
  subst e1
  subst e3
  replace hf := xsTh_use hf
  refine W.widen (k := 1) (n := 6) (Nat.le_refl _) (Nat.le_refl _) ?_
  refine lv_iconst (v := (0 : Int32)) hx hb dX10_over_5 (by decide) ?_
  refine lv_istore_n (lv' := [(3, .int (0 : Int32)), (0, .ref (xsA X 0)), (1, .int a0), (2, .int a1)]) hx hb dX10_over_6 rfl hl (by decide) rfl (fun ls hl => ?_)
  refine lv_iconst (v := (0 : Int32)) hx hb dX10_over_7 (by decide) ?_
  refine lv_istore (lv' := [(4, .int (0 : Int32)), (3, .int (0 : Int32)), (0, .ref (xsA X 0)), (1, .int a0), (2, .int a1)]) hx hb dX10_over_8 hl (by decide) rfl (fun ls hl => ?_)
  have K6 : ∀ (y7 : Int32) (hf : fX10_over_J87 y7 = some out) (H : Heap) (locs : List Loc) (ls : Array Slot), va_P (xsD X) vwCl (wK X kIsKept kIsStale hiLatest hiSize scBytes scTold scLength scFault scAt scNumber piSegmentsNow enKind enX enY enLower enFromX enFromY enToX enToY tiTouching tiLyingAlong tiMeetingPairs tiAlongPairs tiSize evX evY evLower evBundle evCrossingOf evEventOf evLeftEvent evRightEvent evSize evCrossings evSegmentsNow grDegree grEdges grFar grQueue grQueued huX huY huSize huBestX huBestY S Rw) H → va_D (xsF X) (wK X kIsKept kIsStale hiLatest hiSize scBytes scTold scLength scFault scAt scNumber piSegmentsNow enKind enX enY enLower enFromX enFromY enToX enToY tiTouching tiLyingAlong tiMeetingPairs tiAlongPairs tiSize evX evY evLower evBundle evCrossingOf evEventOf evLeftEvent evRightEvent evSize evCrossings evSegmentsNow grDegree grEdges grFar grQueue grQueued huX huY huSize huBestX huBestY S Rw) → va_S (xsF X) s.heap H locs → lv_has ls 6 [(3, .int y7)] → W p l e { frames := 7, cells := 1, slots := 6, locals := 111 } s m ([.ref (xsA X 0), .int a0, .int a1] : List Value).toArray below meth c H locs 1 6 (vx_MQ below Qq Xq ([.ref (xsA X 0), .int a0, .int a1] : List Value).toArray s 1 6 (xsF X)) (F0 m 87 ls []) := by
    intro y7 hf H locs ls hP hD hS hl
    unfold fX10_over_J87 at hf
    refine lv_iload_n hx hb dX10_over_87 rfl (lv_at hl 0 rfl) ?_
    have ho := Option.some.inj hf
    subst ho
    rw [hQq]
    exact xs_xiret C hr hlk ⟨_, rfl, rfl, rfl⟩ hP hD hS (Nat.le_of_ble_eq_true rfl) (Nat.le_of_ble_eq_true rfl) dX10_over_88
  replace hf := xsBd_use hf
  obtain ⟨r6, hk60, hf⟩ := hf
  have L6 : ∀ (sg : Int32 × Int32) (rg : Int32), xsWh (fun s6 => fX10_over_L10 g0Lx g0Ly g0Rx g0Ry g0Sz a0 a1 s6.1 s6.2) sg = some rg → (fX10_over_J87 rg = some out → ∀ (H : Heap) (locs : List Loc) (ls : Array Slot), va_P (xsD X) vwCl (wK X kIsKept kIsStale hiLatest hiSize scBytes scTold scLength scFault scAt scNumber piSegmentsNow enKind enX enY enLower enFromX enFromY enToX enToY tiTouching tiLyingAlong tiMeetingPairs tiAlongPairs tiSize evX evY evLower evBundle evCrossingOf evEventOf evLeftEvent evRightEvent evSize evCrossings evSegmentsNow grDegree grEdges grFar grQueue grQueued huX huY huSize huBestX huBestY S Rw) H → va_D (xsF X) (wK X kIsKept kIsStale hiLatest hiSize scBytes scTold scLength scFault scAt scNumber piSegmentsNow enKind enX enY enLower enFromX enFromY enToX enToY tiTouching tiLyingAlong tiMeetingPairs tiAlongPairs tiSize evX evY evLower evBundle evCrossingOf evEventOf evLeftEvent evRightEvent evSize evCrossings evSegmentsNow grDegree grEdges grFar grQueue grQueued huX huY huSize huBestX huBestY S Rw) → va_S (xsF X) s.heap H locs → lv_has ls 6 [(0, .ref (xsA X 0)), (1, .int a0), (2, .int a1), (3, .int sg.1), (4, .int sg.2)] → W p l e { frames := 7, cells := 1, slots := 6, locals := 111 } s m ([.ref (xsA X 0), .int a0, .int a1] : List Value).toArray below meth c H locs 1 6 (vx_MQ below Qq Xq ([.ref (xsA X 0), .int a0, .int a1] : List Value).toArray s 1 6 (xsF X)) (F0 m 10 ls [])) := by
    refine xsWh_ind ?_
    intro sg r6 u6 hf ih6 hx6 hk6 H locs ls hP hD hS hl
    obtain ⟨y4, y5⟩ := sg
    replace hf : fX10_over_L10 g0Lx g0Ly g0Rx g0Ry g0Sz a0 a1 y4 y5 = some u6 := hf
    replace hl : lv_has ls 6 [(0, .ref (xsA X 0)), (1, .int a0), (2, .int a1), (3, .int y4), (4, .int y5)] := hl
    replace hP : va_P (xsD X) vwCl (wK X kIsKept kIsStale hiLatest hiSize scBytes scTold scLength scFault scAt scNumber piSegmentsNow enKind enX enY enLower enFromX enFromY enToX enToY tiTouching tiLyingAlong tiMeetingPairs tiAlongPairs tiSize evX evY evLower evBundle evCrossingOf evEventOf evLeftEvent evRightEvent evSize evCrossings evSegmentsNow grDegree grEdges grFar grQueue grQueued huX huY huSize huBestX huBestY S Rw) H := hP
    replace hD : va_D (xsF X) (wK X kIsKept kIsStale hiLatest hiSize scBytes scTold scLength scFault scAt scNumber piSegmentsNow enKind enX enY enLower enFromX enFromY enToX enToY tiTouching tiLyingAlong tiMeetingPairs tiAlongPairs tiSize evX evY evLower evBundle evCrossingOf evEventOf evLeftEvent evRightEvent evSize evCrossings evSegmentsNow grDegree grEdges grFar grQueue grQueued huX huY huSize huBestX huBestY S Rw) := hD
    unfold fX10_over_L10 at hf
    refine lv_iload hx hb dX10_over_10 (lv_at hl 4 rfl) ?_
    refine lv_aload_n hx hb dX10_over_12 rfl (lv_at hl 0 rfl) ?_
    refine xg_X10_10 C hP dX10_over_13 ?_
    refine xg_X10_119 (j := 0) (by decide) hs_0 C hP dX10_over_16 ?_
    refine lv_icmp_ge (tgt := 87) hx hb dX10_over_19 (by decide) (fun c26 => ?_) (fun c26 => ?_)
    · replace hf := xsBr_t c26 hf
      have ez := hx6 _ (Option.some.inj hf).symm
      subst ez
      exact K6 y4 hk6 H locs ls hP hD hS (lv_sub hl [3] rfl)
    · replace hf := xsBr_f c26 hf
      refine lv_aload_n hx hb dX10_over_22 rfl (lv_at hl 0 rfl) ?_
      refine xg_X10_10 C hP dX10_over_23 ?_
      refine xg_X10_166 (j := 0) (by decide) C hP dX10_over_26 ?_
      refine lv_iload hx hb dX10_over_29 (lv_at hl 4 rfl) ?_
      replace hf := xsCk_use hf
      obtain ⟨h8, hf⟩ := hf
      refine xl_s0 (j := 0) (by decide) hs_0 C hP h8 dX10_over_31 ?_
      refine lv_iload_n hx hb dX10_over_32 rfl (lv_at hl 1 rfl) ?_
      have K22 : ∀ (y9 : Int32) (hf : fX10_over_J55 g0Lx g0Ly g0Rx g0Ry a0 a1 y4 y5 y9 = some u6) (H : Heap) (locs : List Loc) (ls : Array Slot), va_P (xsD X) vwCl (wK X kIsKept kIsStale hiLatest hiSize scBytes scTold scLength scFault scAt scNumber piSegmentsNow enKind enX enY enLower enFromX enFromY enToX enToY tiTouching tiLyingAlong tiMeetingPairs tiAlongPairs tiSize evX evY evLower evBundle evCrossingOf evEventOf evLeftEvent evRightEvent evSize evCrossings evSegmentsNow grDegree grEdges grFar grQueue grQueued huX huY huSize huBestX huBestY S Rw) H → va_D (xsF X) (wK X kIsKept kIsStale hiLatest hiSize scBytes scTold scLength scFault scAt scNumber piSegmentsNow enKind enX enY enLower enFromX enFromY enToX enToY tiTouching tiLyingAlong tiMeetingPairs tiAlongPairs tiSize evX evY evLower evBundle evCrossingOf evEventOf evLeftEvent evRightEvent evSize evCrossings evSegmentsNow grDegree grEdges grFar grQueue grQueued huX huY huSize huBestX huBestY S Rw) → va_S (xsF X) s.heap H locs → lv_has ls 6 [(0, .ref (xsA X 0)), (1, .int a0), (2, .int a1), (3, .int y4), (4, .int y5)] → W p l e { frames := 7, cells := 1, slots := 6, locals := 111 } s m ([.ref (xsA X 0), .int a0, .int a1] : List Value).toArray below meth c H locs 1 6 (vx_MQ below Qq Xq ([.ref (xsA X 0), .int a0, .int a1] : List Value).toArray s 1 6 (xsF X)) (F0 m 55 ls [.int y9]) := by
        intro y9 hf H locs ls hP hD hS hl
        unfold fX10_over_J55 at hf
        refine lv_istore (lv' := [(5, .int y9), (0, .ref (xsA X 0)), (1, .int a0), (2, .int a1), (3, .int y4), (4, .int y5)]) hx hb dX10_over_55 hl (by decide) rfl (fun ls hl => ?_)
        refine lv_iload hx hb dX10_over_57 (lv_at hl 0 rfl) ?_
        have K14 : ∀ (y10 : Int32) (hf : fX10_over_J81 y5 y10 = some u6) (H : Heap) (locs : List Loc) (ls : Array Slot), va_P (xsD X) vwCl (wK X kIsKept kIsStale hiLatest hiSize scBytes scTold scLength scFault scAt scNumber piSegmentsNow enKind enX enY enLower enFromX enFromY enToX enToY tiTouching tiLyingAlong tiMeetingPairs tiAlongPairs tiSize evX evY evLower evBundle evCrossingOf evEventOf evLeftEvent evRightEvent evSize evCrossings evSegmentsNow grDegree grEdges grFar grQueue grQueued huX huY huSize huBestX huBestY S Rw) H → va_D (xsF X) (wK X kIsKept kIsStale hiLatest hiSize scBytes scTold scLength scFault scAt scNumber piSegmentsNow enKind enX enY enLower enFromX enFromY enToX enToY tiTouching tiLyingAlong tiMeetingPairs tiAlongPairs tiSize evX evY evLower evBundle evCrossingOf evEventOf evLeftEvent evRightEvent evSize evCrossings evSegmentsNow grDegree grEdges grFar grQueue grQueued huX huY huSize huBestX huBestY S Rw) → va_S (xsF X) s.heap H locs → lv_has ls 6 [(0, .ref (xsA X 0)), (1, .int a0), (2, .int a1), (3, .int y10), (4, .int y5)] → W p l e { frames := 7, cells := 1, slots := 6, locals := 111 } s m ([.ref (xsA X 0), .int a0, .int a1] : List Value).toArray below meth c H locs 1 6 (vx_MQ below Qq Xq ([.ref (xsA X 0), .int a0, .int a1] : List Value).toArray s 1 6 (xsF X)) (F0 m 81 ls []) := by
          intro y10 hf H locs ls hP hD hS hl
          unfold fX10_over_J81 at hf
          obtain ⟨x11, ex11⟩ : ∃ y : Int32, y = y5 + (1 : Int32) := ⟨_, rfl⟩
          replace hf := xsLt_use ex11 hf
          refine lv_iinc (v := x11) (lv' := [(4, .int x11), (0, .ref (xsA X 0)), (1, .int a0), (2, .int a1), (3, .int y10)]) hx hb dX10_over_81 hl (k := 4) rfl (by rw [ex11]; rfl) (by decide) rfl (fun ls hl => ?_)
          refine lv_goto (tgt := 10) hx hb dX10_over_84 (by decide) ?_
          exact ih6 _ (Option.some.inj hf).symm hk6 H locs ls hP hD hS (lv_sub hl [1, 2, 3, 4, 0] rfl)
        replace hf := xsBd_use hf
        obtain ⟨v12, hf, hk13⟩ := hf
        refine lv_if_eq (tgt := 81) hx hb dX10_over_59 (by decide) (fun c19 => ?_) (fun c19 => ?_)
        · replace hf := xsBr_t c19 hf
          have ev := Option.some.inj hf
          subst ev
          exact K14 y4 hk13 H locs ls hP hD hS (lv_sub hl [1, 2, 3, 4, 5] rfl)
        · replace hf := xsBr_f c19 hf
          refine lv_aload_n hx hb dX10_over_62 rfl (lv_at hl 1 rfl) ?_
          refine xg_X10_10 C hP dX10_over_63 ?_
          refine lv_iload hx hb dX10_over_66 (lv_at hl 5 rfl) ?_
          refine lv_iload_n hx hb dX10_over_68 rfl (lv_at hl 2 rfl) ?_
          refine lv_iload_n hx hb dX10_over_69 rfl (lv_at hl 3 rfl) ?_
          replace hf := xsBd_use hf
          obtain ⟨o15, h16, hf⟩ := hf
          refine xs_calll hS (xs_runV (As := [.int y5, .int a0, .int a1]) C (mX7_gapAbove l (js := 0) (by decide) hs_0 h16) w_1283 w_1272 w_1273 w_106 w_1274 hd_X7_gapAbove ⟨rfl, rfl, Nat.le_of_ble_eq_true rfl, Nat.le_of_ble_eq_true rfl, Nat.le_of_ble_eq_true rfl, Nat.le_of_ble_eq_true rfl⟩ hP hD hS (xs_lkS (by decide)) rfl hl.1 rfl (Nat.le_of_ble_eq_true rfl) dX10_over_70) (fun H locs hP hD hS => ?_)
          refine lv_lconst (v := (0 : Int64)) hx hb dX10_over_73 (by decide) ?_
          refine xs_lcmp_le (tgt := 81) C dX10_over_74 dX10_over_75 (by decide) (fun c18 => ?_) (fun c18 => ?_)
          · replace hf := xsBr_t c18 hf
            have ev := Option.some.inj hf
            subst ev
            exact K14 y4 hk13 H locs ls hP hD hS (lv_sub hl [1, 2, 3, 4, 5] rfl)
          · replace hf := xsBr_f c18 hf
            obtain ⟨x17, ex17⟩ : ∃ y : Int32, y = y4 + (1 : Int32) := ⟨_, rfl⟩
            replace hf := xsLt_use ex17 hf
            refine lv_iinc (v := x17) (lv' := [(3, .int x17), (5, .int y9), (0, .ref (xsA X 0)), (1, .int a0), (2, .int a1), (4, .int y5)]) hx hb dX10_over_78 hl (k := 4) rfl (by rw [ex17]; rfl) (by decide) rfl (fun ls hl => ?_)
            have ev := Option.some.inj hf
            subst ev
            exact K14 x17 hk13 H locs ls hP hD hS (lv_sub hl [2, 3, 4, 0, 5] rfl)
      replace hf := xsBd_use hf
      obtain ⟨v20, hf, hk21⟩ := hf
      refine lv_icmp_gt (tgt := 54) hx hb dX10_over_33 (by decide) (fun c25 => ?_) (fun c25 => ?_)
      · replace hf := xsBr_t c25 hf
        refine lv_iconst (v := (0 : Int32)) hx hb dX10_over_54 (by decide) ?_
        have ev := Option.some.inj hf
        subst ev
        exact K22 (0 : Int32) hk21 H locs ls hP hD hS (lv_sub hl [0, 1, 2, 3, 4] rfl)
      · replace hf := xsBr_f c25 hf
        refine lv_aload_n hx hb dX10_over_36 rfl (lv_at hl 0 rfl) ?_
        refine xg_X10_10 C hP dX10_over_37 ?_
        refine xg_X10_172 (j := 0) (by decide) C hP dX10_over_40 ?_
        refine lv_iload hx hb dX10_over_43 (lv_at hl 4 rfl) ?_
        replace hf := xsCk_use hf
        obtain ⟨h23, hf⟩ := hf
        refine xl_s2 (j := 0) (by decide) hs_0 C hP h23 dX10_over_45 ?_
        refine lv_iload_n hx hb dX10_over_46 rfl (lv_at hl 1 rfl) ?_
        refine lv_icmp_le (tgt := 54) hx hb dX10_over_47 (by decide) (fun c24 => ?_) (fun c24 => ?_)
        · replace hf := xsBr_t c24 hf
          refine lv_iconst (v := (0 : Int32)) hx hb dX10_over_54 (by decide) ?_
          have ev := Option.some.inj hf
          subst ev
          exact K22 (0 : Int32) hk21 H locs ls hP hD hS (lv_sub hl [0, 1, 2, 3, 4] rfl)
        · replace hf := xsBr_f c24 hf
          refine lv_iconst (v := (1 : Int32)) hx hb dX10_over_50 (by decide) ?_
          refine lv_goto (tgt := 55) hx hb dX10_over_51 (by decide) ?_
          have ev := Option.some.inj hf
          subst ev
          exact K22 (1 : Int32) hk21 H locs ls hP hD hS (lv_sub hl [0, 1, 2, 3, 4] rfl)
  exact L6 ((0 : Int32), (0 : Int32)) r6 hk60 hf H locs ls hP hD hS (lv_sub hl [2, 3, 4, 1, 0] rfl)
set_option maxRecDepth 100000 in
set_option maxHeartbeats 8000000 in
theorem mX10_sight (l : Launch) (hst : l.stackTraces = false) {X : xsX} {kIsKept kIsStale hiLatest hiSize scLength scFault scAt scNumber piSegmentsNow enKind enFromX enFromY enToX enToY tiMeetingPairs tiAlongPairs tiSize evSize evCrossings evSegmentsNow grEdges grQueued huSize huBestX huBestY : Int32} {scBytes scTold tiTouching tiLyingAlong evBundle evCrossingOf evEventOf evLeftEvent evRightEvent grDegree grFar grQueue huX huY : Nat → Int32} {enX enY enLower : Int64} {evX evY evLower : Nat → Int64} {S : Nat → xsV} {Rw : va_W} {g0Lx g0Ly g0Rx g0Ry g0Ti : Nat → Int32} {g0Sz : Int32} (hs_0 : S 0 = (g0Lx, g0Ly, g0Rx, g0Ry, g0Ti, g0Sz)) {g2Lx g2Ly g2Rx g2Ry g2Ti : Nat → Int32} {g2Sz : Int32} (hs_2 : S 2 = (g2Lx, g2Ly, g2Rx, g2Ry, g2Ti, g2Sz)) {a0 : Int32} {a1 : Int32} {a2 : Int32} {a3 : Int32} {out : (Int32 × Int32 × Int64 × Int64 × Int64 × Int32 × Int32 × Int32 × Int32 × (Nat → Int32) × (Nat → Int32) × (Nat → Int32) × (Nat → Int32)) ⊕ (Nat × (Int32 × Int64 × Int64 × Int64 × Int32 × Int32 × Int32 × Int32 × (Nat → Int32) × (Nat → Int32) × (Nat → Int32) × (Nat → Int32)))} (hf : fX10_sight enKind enX enY enLower enFromX enFromY enToX enToY g0Lx g0Ly g0Rx g0Ry g0Sz g2Lx g2Ly g2Rx g2Ry a0 a1 a2 a3 = some out) : vx_Met l yX10_sight (xsWs yX10_sight cX10_sight 14 (some .int)) { frames := 7, cells := 2, slots := 12, locals := 111 } (xsP X (wK X kIsKept kIsStale hiLatest hiSize scBytes scTold scLength scFault scAt scNumber piSegmentsNow enKind enX enY enLower enFromX enFromY enToX enToY tiTouching tiLyingAlong tiMeetingPairs tiAlongPairs tiSize evX evY evLower evBundle evCrossingOf evEventOf evLeftEvent evRightEvent evSize evCrossings evSegmentsNow grDegree grEdges grFar grQueue grQueued huX huY huSize huBestX huBestY S Rw) [.ref (xsA X 0), .int a0, .int a1, .int a2, .int a3]) (xsXi X (fun r u => ∃ tt, out = .inl tt ∧ r = tt.1 ∧ u = wK X kIsKept kIsStale hiLatest hiSize scBytes scTold scLength scFault scAt scNumber piSegmentsNow tt.2.1 tt.2.2.1 tt.2.2.2.1 tt.2.2.2.2.1 tt.2.2.2.2.2.1 tt.2.2.2.2.2.2.1 tt.2.2.2.2.2.2.2.1 tt.2.2.2.2.2.2.2.2.1 tiTouching tiLyingAlong tiMeetingPairs tiAlongPairs tiSize evX evY evLower evBundle evCrossingOf evEventOf evLeftEvent evRightEvent evSize evCrossings evSegmentsNow grDegree grEdges grFar grQueue grQueued huX huY huSize huBestX huBestY (xsSu S 2 (tt.2.2.2.2.2.2.2.2.2.1, tt.2.2.2.2.2.2.2.2.2.2.1, tt.2.2.2.2.2.2.2.2.2.2.2.1, tt.2.2.2.2.2.2.2.2.2.2.2.2, g2Ti, g2Sz)) Rw)) (xsXC X (fun n u => ∃ tt, out = .inr (n, tt) ∧ u = wK X kIsKept kIsStale hiLatest hiSize scBytes scTold scLength scFault scAt scNumber piSegmentsNow tt.1 tt.2.1 tt.2.2.1 tt.2.2.2.1 tt.2.2.2.2.1 tt.2.2.2.2.2.1 tt.2.2.2.2.2.2.1 tt.2.2.2.2.2.2.2.1 tiTouching tiLyingAlong tiMeetingPairs tiAlongPairs tiSize evX evY evLower evBundle evCrossingOf evEventOf evLeftEvent evRightEvent evSize evCrossings evSegmentsNow grDegree grEdges grFar grQueue grQueued huX huY huSize huBestX huBestY (xsSu S 2 (tt.2.2.2.2.2.2.2.2.1, tt.2.2.2.2.2.2.2.2.2.1, tt.2.2.2.2.2.2.2.2.2.2.1, tt.2.2.2.2.2.2.2.2.2.2.2, g2Ti, g2Sz)) Rw)) 2 12 (xsF X) := by
  refine xs_xmet RX10 (by decide) rfl (Nat.le_of_ble_eq_true rfl) ?_
  intro p e s m below meth c ls H locs C hout hP hD hS hr hlk hl
  have hx := C.1
  have hb := C.2.1
  have hl : lv_has ls 14 [(0, .ref (xsA X 0)), (1, .int a0), (2, .int a1), (3, .int a2), (4, .int a3)] := hl
  obtain ⟨Qq, hQq⟩ : ∃ Qq, Qq = xsXi X (fun r u => ∃ tt, out = .inl tt ∧ r = tt.1 ∧ u = wK X kIsKept kIsStale hiLatest hiSize scBytes scTold scLength scFault scAt scNumber piSegmentsNow tt.2.1 tt.2.2.1 tt.2.2.2.1 tt.2.2.2.2.1 tt.2.2.2.2.2.1 tt.2.2.2.2.2.2.1 tt.2.2.2.2.2.2.2.1 tt.2.2.2.2.2.2.2.2.1 tiTouching tiLyingAlong tiMeetingPairs tiAlongPairs tiSize evX evY evLower evBundle evCrossingOf evEventOf evLeftEvent evRightEvent evSize evCrossings evSegmentsNow grDegree grEdges grFar grQueue grQueued huX huY huSize huBestX huBestY (xsSu S 2 (tt.2.2.2.2.2.2.2.2.2.1, tt.2.2.2.2.2.2.2.2.2.2.1, tt.2.2.2.2.2.2.2.2.2.2.2.1, tt.2.2.2.2.2.2.2.2.2.2.2.2, g2Ti, g2Sz)) Rw) := ⟨_, rfl⟩
  rw [← hQq]
  obtain ⟨Xq, hXq⟩ : ∃ Xq, Xq = xsXC X (fun n u => ∃ tt, out = .inr (n, tt) ∧ u = wK X kIsKept kIsStale hiLatest hiSize scBytes scTold scLength scFault scAt scNumber piSegmentsNow tt.1 tt.2.1 tt.2.2.1 tt.2.2.2.1 tt.2.2.2.2.1 tt.2.2.2.2.2.1 tt.2.2.2.2.2.2.1 tt.2.2.2.2.2.2.2.1 tiTouching tiLyingAlong tiMeetingPairs tiAlongPairs tiSize evX evY evLower evBundle evCrossingOf evEventOf evLeftEvent evRightEvent evSize evCrossings evSegmentsNow grDegree grEdges grFar grQueue grQueued huX huY huSize huBestX huBestY (xsSu S 2 (tt.2.2.2.2.2.2.2.2.1, tt.2.2.2.2.2.2.2.2.2.1, tt.2.2.2.2.2.2.2.2.2.2.1, tt.2.2.2.2.2.2.2.2.2.2.2, g2Ti, g2Sz)) Rw) := ⟨_, rfl⟩
  rw [← hXq]
  unfold fX10_sight at hf
  refine lv_iload_n hx hb dX10_sight_0 rfl (lv_at hl 1 rfl) ?_
  refine lv_iload_n hx hb dX10_sight_1 rfl (lv_at hl 2 rfl) ?_
  replace hf := xsBd_use hf
  obtain ⟨o1, h2, hf⟩ := hf
  refine xs_xcallv hS (xs_xrunS (As := [.int a0, .int a1]) C (mX10_checkPoint l hst  h2) w_983 w_984 w_105 w_985 hd_X10_checkPoint ⟨rfl, rfl, Nat.le_of_ble_eq_true rfl, Nat.le_of_ble_eq_true rfl, Nat.le_of_ble_eq_true rfl, Nat.le_of_ble_eq_true rfl⟩ hP hD hS hl.1 rfl (Nat.le_of_ble_eq_true rfl) dX10_sight_2) (fun n u q H locs hpx hP hD hS hq => ?_) (fun u H locs hp hP hD hS => ?_)
  · obtain ⟨tx, e1, e2⟩ := hpx
    subst e1
    subst e2
    have ho := Option.some.inj hf
    subst ho
    rw [hXq]
    rw [← xsSu_self (hs_2)] at hP hD
    exact xs_xpass hlk hout ⟨_, rfl, rfl⟩ hP hD hS hq (Nat.le_of_ble_eq_true rfl) (Nat.le_of_ble_eq_true rfl)
  obtain ⟨v3, e1, e3⟩ := hp
  subst e1
  subst e3
  replace hf := xsTh_use hf
  refine W.widen (k := 1) (n := 6) (Nat.le_refl _) (Nat.le_refl _) ?_
  refine lv_iload_n hx hb dX10_sight_5 rfl (lv_at hl 3 rfl) ?_
  refine lv_iload hx hb dX10_sight_6 (lv_at hl 4 rfl) ?_
  replace hf := xsBd_use hf
  obtain ⟨o4, h5, hf⟩ := hf
  refine xs_xcallv hS (xs_xrunS (As := [.int a2, .int a3]) C (mX10_checkPoint l hst  h5) w_983 w_984 w_105 w_985 hd_X10_checkPoint ⟨rfl, rfl, Nat.le_of_ble_eq_true rfl, Nat.le_of_ble_eq_true rfl, Nat.le_of_ble_eq_true rfl, Nat.le_of_ble_eq_true rfl⟩ hP hD hS hl.1 rfl (Nat.le_of_ble_eq_true rfl) dX10_sight_8) (fun n u q H locs hpx hP hD hS hq => ?_) (fun u H locs hp hP hD hS => ?_)
  · obtain ⟨tx, e1, e2⟩ := hpx
    subst e1
    subst e2
    have ho := Option.some.inj hf
    subst ho
    rw [hXq]
    rw [← xsSu_self (hs_2)] at hP hD
    exact xs_xpass hlk hout ⟨_, rfl, rfl⟩ hP hD hS hq (Nat.le_of_ble_eq_true rfl) (Nat.le_of_ble_eq_true rfl)
  obtain ⟨v6, e1, e3⟩ := hp
  subst e1
  subst e3
  replace hf := xsTh_use hf
  refine W.widen (k := 2) (n := 12) (Nat.le_refl _) (Nat.le_refl _) ?_
  refine lv_aload_n hx hb dX10_sight_11 rfl (lv_at hl 0 rfl) ?_
  refine xg_X10_19 C hP dX10_sight_12 ?_
  refine lv_iconst (v := (0 : Int32)) hx hb dX10_sight_15 (by decide) ?_
  refine lv_iload_n hx hb dX10_sight_16 rfl (lv_at hl 1 rfl) ?_
  refine lv_iload_n hx hb dX10_sight_17 rfl (lv_at hl 2 rfl) ?_
  refine lv_iload_n hx hb dX10_sight_18 rfl (lv_at hl 3 rfl) ?_
  refine lv_iload hx hb dX10_sight_19 (lv_at hl 4 rfl) ?_
  replace hf := xsBd_use hf
  obtain ⟨o7, h8, hf⟩ := hf
  refine xs_callv hS (xs_runV (As := [.int (0 : Int32), .int a0, .int a1, .int a2, .int a3]) C (mX7_put l (js := 2) (by decide) hs_2 h8) w_1302 w_532 w_533 w_106 w_534 hd_X7_put ⟨rfl, rfl, Nat.le_of_ble_eq_true rfl, Nat.le_of_ble_eq_true rfl, Nat.le_of_ble_eq_true rfl, Nat.le_of_ble_eq_true rfl⟩ hP hD hS (xs_lkS (by decide)) rfl hl.1 rfl (Nat.le_of_ble_eq_true rfl) dX10_sight_21) (fun H locs hP hD hS => ?_)
  refine lv_aload_n hx hb dX10_sight_24 rfl (lv_at hl 0 rfl) ?_
  refine xg_X10_39 C hP dX10_sight_25 ?_
  refine xg_X10_357 C hP dX10_sight_28 ?_
  refine lv_astore (lv' := [(5, .ref (xsA X 7)), (0, .ref (xsA X 0)), (1, .int a0), (2, .int a1), (3, .int a2), (4, .int a3)]) hx hb dX10_sight_31 hl (by decide) rfl (fun ls hl => ?_)
  refine lv_iconst (v := (-1 : Int32)) hx hb dX10_sight_33 (by decide) ?_
  refine lv_istore (lv' := [(6, .int (-1 : Int32)), (5, .ref (xsA X 7)), (0, .ref (xsA X 0)), (1, .int a0), (2, .int a1), (3, .int a2), (4, .int a3)]) hx hb dX10_sight_34 hl (by decide) rfl (fun ls hl => ?_)
  refine lv_lconst (v := (0 : Int64)) hx hb dX10_sight_36 (by decide) ?_
  refine lv_lstore (lv' := [(7, .long (0 : Int64)), (6, .int (-1 : Int32)), (5, .ref (xsA X 7)), (0, .ref (xsA X 0)), (1, .int a0), (2, .int a1), (3, .int a2), (4, .int a3)]) hx hb dX10_sight_37 hl (by decide) rfl (fun ls hl => ?_)
  refine lv_lconst (v := (1 : Int64)) hx hb dX10_sight_39 (by decide) ?_
  refine lv_lstore (lv' := [(9, .long (1 : Int64)), (7, .long (0 : Int64)), (6, .int (-1 : Int32)), (5, .ref (xsA X 7)), (0, .ref (xsA X 0)), (1, .int a0), (2, .int a1), (3, .int a2), (4, .int a3)]) hx hb dX10_sight_40 hl (by decide) rfl (fun ls hl => ?_)
  refine lv_iconst (v := (0 : Int32)) hx hb dX10_sight_42 (by decide) ?_
  refine lv_istore (lv' := [(11, .int (0 : Int32)), (9, .long (1 : Int64)), (7, .long (0 : Int64)), (6, .int (-1 : Int32)), (5, .ref (xsA X 7)), (0, .ref (xsA X 0)), (1, .int a0), (2, .int a1), (3, .int a2), (4, .int a3)]) hx hb dX10_sight_43 hl (by decide) rfl (fun ls hl => ?_)
  have K21 : ∀ (y22 : Int32) (y23 : Int32) (y24 : Int64) (y25 : Int64) (y26 : Int64) (y27 : Int32) (y28 : Int32) (y29 : Int32) (y30 : Int32) (hf : fX10_sight_J137 o7 y22 y23 y24 y25 y26 y27 y28 y29 y30 = some out) (H : Heap) (locs : List Loc) (ls : Array Slot), va_P (xsD X) vwCl (wK X kIsKept kIsStale hiLatest hiSize scBytes scTold scLength scFault scAt scNumber piSegmentsNow y23 y24 y25 y26 y27 y28 y29 y30 tiTouching tiLyingAlong tiMeetingPairs tiAlongPairs tiSize evX evY evLower evBundle evCrossingOf evEventOf evLeftEvent evRightEvent evSize evCrossings evSegmentsNow grDegree grEdges grFar grQueue grQueued huX huY huSize huBestX huBestY (xsSu S 2 (o7.1, o7.2.1, o7.2.2.1, o7.2.2.2, g2Ti, g2Sz)) Rw) H → va_D (xsF X) (wK X kIsKept kIsStale hiLatest hiSize scBytes scTold scLength scFault scAt scNumber piSegmentsNow y23 y24 y25 y26 y27 y28 y29 y30 tiTouching tiLyingAlong tiMeetingPairs tiAlongPairs tiSize evX evY evLower evBundle evCrossingOf evEventOf evLeftEvent evRightEvent evSize evCrossings evSegmentsNow grDegree grEdges grFar grQueue grQueued huX huY huSize huBestX huBestY (xsSu S 2 (o7.1, o7.2.1, o7.2.2.1, o7.2.2.2, g2Ti, g2Sz)) Rw) → va_S (xsF X) s.heap H locs → lv_has ls 14 [(6, .int y22)] → W p l e { frames := 7, cells := 2, slots := 12, locals := 111 } s m ([.ref (xsA X 0), .int a0, .int a1, .int a2, .int a3] : List Value).toArray below meth c H locs 2 12 (vx_MQ below Qq Xq ([.ref (xsA X 0), .int a0, .int a1, .int a2, .int a3] : List Value).toArray s 2 12 (xsF X)) (F0 m 137 ls []) := by
    intro y22 y23 y24 y25 y26 y27 y28 y29 y30 hf H locs ls hP hD hS hl
    unfold fX10_sight_J137 at hf
    refine lv_iload hx hb dX10_sight_137 (lv_at hl 0 rfl) ?_
    have ho := Option.some.inj hf
    subst ho
    rw [hQq]
    exact xs_xiret C hr hlk ⟨_, rfl, rfl, rfl⟩ hP hD hS (Nat.le_of_ble_eq_true rfl) (Nat.le_of_ble_eq_true rfl) dX10_sight_139
  replace hf := xsBd_use hf
  obtain ⟨r21, hk210, hf⟩ := hf
  have L21 : ∀ (sg : Int32 × Int64 × Int64 × Int32 × Int32 × Int64 × Int64 × Int64 × Int32 × Int32 × Int32 × Int32) (rg : Int32 × Int32 × Int64 × Int64 × Int64 × Int32 × Int32 × Int32 × Int32), xsWh (fun s21 => fX10_sight_L45 g0Lx g0Ly g0Rx g0Ry g0Sz a0 a1 o7 s21.1 s21.2.1 s21.2.2.1 s21.2.2.2.1 s21.2.2.2.2.1 s21.2.2.2.2.2.1 s21.2.2.2.2.2.2.1 s21.2.2.2.2.2.2.2.1 s21.2.2.2.2.2.2.2.2.1 s21.2.2.2.2.2.2.2.2.2.1 s21.2.2.2.2.2.2.2.2.2.2.1 s21.2.2.2.2.2.2.2.2.2.2.2) sg = some rg → (fX10_sight_J137 o7 rg.1 rg.2.1 rg.2.2.1 rg.2.2.2.1 rg.2.2.2.2.1 rg.2.2.2.2.2.1 rg.2.2.2.2.2.2.1 rg.2.2.2.2.2.2.2.1 rg.2.2.2.2.2.2.2.2 = some out → ∀ (H : Heap) (locs : List Loc) (ls : Array Slot), va_P (xsD X) vwCl (wK X kIsKept kIsStale hiLatest hiSize scBytes scTold scLength scFault scAt scNumber piSegmentsNow sg.2.2.2.2.1 sg.2.2.2.2.2.1 sg.2.2.2.2.2.2.1 sg.2.2.2.2.2.2.2.1 sg.2.2.2.2.2.2.2.2.1 sg.2.2.2.2.2.2.2.2.2.1 sg.2.2.2.2.2.2.2.2.2.2.1 sg.2.2.2.2.2.2.2.2.2.2.2 tiTouching tiLyingAlong tiMeetingPairs tiAlongPairs tiSize evX evY evLower evBundle evCrossingOf evEventOf evLeftEvent evRightEvent evSize evCrossings evSegmentsNow grDegree grEdges grFar grQueue grQueued huX huY huSize huBestX huBestY (xsSu S 2 (o7.1, o7.2.1, o7.2.2.1, o7.2.2.2, g2Ti, g2Sz)) Rw) H → va_D (xsF X) (wK X kIsKept kIsStale hiLatest hiSize scBytes scTold scLength scFault scAt scNumber piSegmentsNow sg.2.2.2.2.1 sg.2.2.2.2.2.1 sg.2.2.2.2.2.2.1 sg.2.2.2.2.2.2.2.1 sg.2.2.2.2.2.2.2.2.1 sg.2.2.2.2.2.2.2.2.2.1 sg.2.2.2.2.2.2.2.2.2.2.1 sg.2.2.2.2.2.2.2.2.2.2.2 tiTouching tiLyingAlong tiMeetingPairs tiAlongPairs tiSize evX evY evLower evBundle evCrossingOf evEventOf evLeftEvent evRightEvent evSize evCrossings evSegmentsNow grDegree grEdges grFar grQueue grQueued huX huY huSize huBestX huBestY (xsSu S 2 (o7.1, o7.2.1, o7.2.2.1, o7.2.2.2, g2Ti, g2Sz)) Rw) → va_S (xsF X) s.heap H locs → lv_has ls 14 [(0, .ref (xsA X 0)), (1, .int a0), (2, .int a1), (5, .ref (xsA X 7)), (6, .int sg.1), (7, .long sg.2.1), (9, .long sg.2.2.1), (11, .int sg.2.2.2.1)] → W p l e { frames := 7, cells := 2, slots := 12, locals := 111 } s m ([.ref (xsA X 0), .int a0, .int a1, .int a2, .int a3] : List Value).toArray below meth c H locs 2 12 (vx_MQ below Qq Xq ([.ref (xsA X 0), .int a0, .int a1, .int a2, .int a3] : List Value).toArray s 2 12 (xsF X)) (F0 m 45 ls [])) := by
    refine xsWh_ind ?_
    intro sg r21 u21 hf ih21 hx21 hk21 H locs ls hP hD hS hl
    obtain ⟨y9, y10, y11, y12, y13, y14, y15, y16, y17, y18, y19, y20⟩ := sg
    replace hf : fX10_sight_L45 g0Lx g0Ly g0Rx g0Ry g0Sz a0 a1 o7 y9 y10 y11 y12 y13 y14 y15 y16 y17 y18 y19 y20 = some u21 := hf
    replace hl : lv_has ls 14 [(0, .ref (xsA X 0)), (1, .int a0), (2, .int a1), (5, .ref (xsA X 7)), (6, .int y9), (7, .long y10), (9, .long y11), (11, .int y12)] := hl
    replace hP : va_P (xsD X) vwCl (wK X kIsKept kIsStale hiLatest hiSize scBytes scTold scLength scFault scAt scNumber piSegmentsNow y13 y14 y15 y16 y17 y18 y19 y20 tiTouching tiLyingAlong tiMeetingPairs tiAlongPairs tiSize evX evY evLower evBundle evCrossingOf evEventOf evLeftEvent evRightEvent evSize evCrossings evSegmentsNow grDegree grEdges grFar grQueue grQueued huX huY huSize huBestX huBestY (xsSu S 2 (o7.1, o7.2.1, o7.2.2.1, o7.2.2.2, g2Ti, g2Sz)) Rw) H := hP
    replace hD : va_D (xsF X) (wK X kIsKept kIsStale hiLatest hiSize scBytes scTold scLength scFault scAt scNumber piSegmentsNow y13 y14 y15 y16 y17 y18 y19 y20 tiTouching tiLyingAlong tiMeetingPairs tiAlongPairs tiSize evX evY evLower evBundle evCrossingOf evEventOf evLeftEvent evRightEvent evSize evCrossings evSegmentsNow grDegree grEdges grFar grQueue grQueued huX huY huSize huBestX huBestY (xsSu S 2 (o7.1, o7.2.1, o7.2.2.1, o7.2.2.2, g2Ti, g2Sz)) Rw) := hD
    unfold fX10_sight_L45 at hf
    refine lv_iload hx hb dX10_sight_45 (lv_at hl 7 rfl) ?_
    refine lv_aload_n hx hb dX10_sight_47 rfl (lv_at hl 0 rfl) ?_
    refine xg_X10_10 C hP dX10_sight_48 ?_
    refine xg_X10_119 (j := 0) (by decide) ((xsSu_ne (by decide)).trans (hs_0)) C hP dX10_sight_51 ?_
    refine lv_icmp_ge (tgt := 137) hx hb dX10_sight_54 (by decide) (fun c46 => ?_) (fun c46 => ?_)
    · replace hf := xsBr_t c46 hf
      have ez := hx21 _ (Option.some.inj hf).symm
      subst ez
      exact K21 y9 y13 y14 y15 y16 y17 y18 y19 y20 hk21 H locs ls hP hD hS (lv_sub hl [4] rfl)
    · replace hf := xsBr_f c46 hf
      refine lv_aload hx hb dX10_sight_57 (lv_at hl 3 rfl) ?_
      refine lv_aload_n hx hb dX10_sight_59 rfl (lv_at hl 0 rfl) ?_
      refine xg_X10_10 C hP dX10_sight_60 ?_
      refine lv_iload hx hb dX10_sight_63 (lv_at hl 7 rfl) ?_
      refine lv_aload_n hx hb dX10_sight_65 rfl (lv_at hl 0 rfl) ?_
      refine xg_X10_19 C hP dX10_sight_66 ?_
      refine lv_iconst (v := (0 : Int32)) hx hb dX10_sight_69 (by decide) ?_
      replace hf := xsBd_use hf
      obtain ⟨o31, h32, hf⟩ := hf
      refine xs_callv hS (xs_runV (As := [.ref (xsA X 27), .int y12, .ref (xsA X 39), .int (0 : Int32)]) C (mX0_study l (js := 0) (by decide) (jo := 2) (by decide) ((xsSu_ne (by decide)).trans (hs_0)) (xsSu_eq _ _ _) h32) w_1130 w_567 w_568 w_110 w_569 hd_X0_study ⟨rfl, rfl, Nat.le_of_ble_eq_true rfl, Nat.le_of_ble_eq_true rfl, Nat.le_of_ble_eq_true rfl, Nat.le_of_ble_eq_true rfl⟩ hP hD hS lk_X0 rfl hl.1 rfl (Nat.le_of_ble_eq_true rfl) dX10_sight_70) (fun H locs hP hD hS => ?_)
      refine lv_aload hx hb dX10_sight_73 (lv_at hl 3 rfl) ?_
      refine xg_X10_213 C hP dX10_sight_75 ?_
      have K39 : ∀ (y33 : Int32) (y34 : Int64) (y35 : Int64) (hf : fX10_sight_J131 y12 o31 y33 y34 y35 = some u21) (H : Heap) (locs : List Loc) (ls : Array Slot), va_P (xsD X) vwCl (wK X kIsKept kIsStale hiLatest hiSize scBytes scTold scLength scFault scAt scNumber piSegmentsNow o31.1 o31.2.1 o31.2.2.1 o31.2.2.2.1 o31.2.2.2.2.1 o31.2.2.2.2.2.1 o31.2.2.2.2.2.2.1 o31.2.2.2.2.2.2.2 tiTouching tiLyingAlong tiMeetingPairs tiAlongPairs tiSize evX evY evLower evBundle evCrossingOf evEventOf evLeftEvent evRightEvent evSize evCrossings evSegmentsNow grDegree grEdges grFar grQueue grQueued huX huY huSize huBestX huBestY (xsSu S 2 (o7.1, o7.2.1, o7.2.2.1, o7.2.2.2, g2Ti, g2Sz)) Rw) H → va_D (xsF X) (wK X kIsKept kIsStale hiLatest hiSize scBytes scTold scLength scFault scAt scNumber piSegmentsNow o31.1 o31.2.1 o31.2.2.1 o31.2.2.2.1 o31.2.2.2.2.1 o31.2.2.2.2.2.1 o31.2.2.2.2.2.2.1 o31.2.2.2.2.2.2.2 tiTouching tiLyingAlong tiMeetingPairs tiAlongPairs tiSize evX evY evLower evBundle evCrossingOf evEventOf evLeftEvent evRightEvent evSize evCrossings evSegmentsNow grDegree grEdges grFar grQueue grQueued huX huY huSize huBestX huBestY (xsSu S 2 (o7.1, o7.2.1, o7.2.2.1, o7.2.2.2, g2Ti, g2Sz)) Rw) → va_S (xsF X) s.heap H locs → lv_has ls 14 [(0, .ref (xsA X 0)), (1, .int a0), (2, .int a1), (5, .ref (xsA X 7)), (6, .int y33), (7, .long y34), (9, .long y35), (11, .int y12)] → W p l e { frames := 7, cells := 2, slots := 12, locals := 111 } s m ([.ref (xsA X 0), .int a0, .int a1, .int a2, .int a3] : List Value).toArray below meth c H locs 2 12 (vx_MQ below Qq Xq ([.ref (xsA X 0), .int a0, .int a1, .int a2, .int a3] : List Value).toArray s 2 12 (xsF X)) (F0 m 131 ls []) := by
        intro y33 y34 y35 hf H locs ls hP hD hS hl
        unfold fX10_sight_J131 at hf
        obtain ⟨x36, ex36⟩ : ∃ y : Int32, y = y12 + (1 : Int32) := ⟨_, rfl⟩
        replace hf := xsLt_use ex36 hf
        refine lv_iinc (v := x36) (lv' := [(11, .int x36), (0, .ref (xsA X 0)), (1, .int a0), (2, .int a1), (5, .ref (xsA X 7)), (6, .int y33), (7, .long y34), (9, .long y35)]) hx hb dX10_sight_131 hl (k := 7) rfl (by rw [ex36]; rfl) (by decide) rfl (fun ls hl => ?_)
        refine lv_goto (tgt := 45) hx hb dX10_sight_134 (by decide) ?_
        exact ih21 _ (Option.some.inj hf).symm hk21 H locs ls hP hD hS (lv_sub hl [1, 2, 3, 4, 5, 6, 7, 0] rfl)
      replace hf := xsBd_use hf
      obtain ⟨v37, hf, hk38⟩ := hf
      refine lv_if_ne (tgt := 84) hx hb dX10_sight_78 (by decide) (fun c45 => ?_) (fun c45 => ?_)
      · replace hf := xsBr_f c45 hf
        refine lv_aload hx hb dX10_sight_84 (lv_at hl 3 rfl) ?_
        refine lv_iload_n hx hb dX10_sight_86 rfl (lv_at hl 1 rfl) ?_
        refine lv_iload_n hx hb dX10_sight_87 rfl (lv_at hl 2 rfl) ?_
        replace hf := xsBd_use hf
        obtain ⟨o40, h41, hf⟩ := hf
        refine xs_calll hS (xs_runV (As := [.int a0, .int a1]) C (mX0_wayFrom l  h41) w_1303 w_1304 w_1305 w_110 w_1306 hd_X0_wayFrom ⟨rfl, rfl, Nat.le_of_ble_eq_true rfl, Nat.le_of_ble_eq_true rfl, Nat.le_of_ble_eq_true rfl, Nat.le_of_ble_eq_true rfl⟩ hP hD hS lk_X0 rfl hl.1 rfl (Nat.le_of_ble_eq_true rfl) dX10_sight_88) (fun H locs hP hD hS => ?_)
        refine lv_lstore (lv' := [(12, .long o40), (0, .ref (xsA X 0)), (1, .int a0), (2, .int a1), (5, .ref (xsA X 7)), (6, .int y9), (7, .long y10), (9, .long y11), (11, .int y12)]) hx hb dX10_sight_91 hl (by decide) rfl (fun ls hl => ?_)
        refine lv_iload hx hb dX10_sight_93 (lv_at hl 5 rfl) ?_
        refine lv_iconst (v := (-1 : Int32)) hx hb dX10_sight_95 (by decide) ?_
        have K42 : ∀ (hf : fX10_sight_J116 y12 o31 o40 = some v37) (H : Heap) (locs : List Loc) (ls : Array Slot), va_P (xsD X) vwCl (wK X kIsKept kIsStale hiLatest hiSize scBytes scTold scLength scFault scAt scNumber piSegmentsNow o31.1 o31.2.1 o31.2.2.1 o31.2.2.2.1 o31.2.2.2.2.1 o31.2.2.2.2.2.1 o31.2.2.2.2.2.2.1 o31.2.2.2.2.2.2.2 tiTouching tiLyingAlong tiMeetingPairs tiAlongPairs tiSize evX evY evLower evBundle evCrossingOf evEventOf evLeftEvent evRightEvent evSize evCrossings evSegmentsNow grDegree grEdges grFar grQueue grQueued huX huY huSize huBestX huBestY (xsSu S 2 (o7.1, o7.2.1, o7.2.2.1, o7.2.2.2, g2Ti, g2Sz)) Rw) H → va_D (xsF X) (wK X kIsKept kIsStale hiLatest hiSize scBytes scTold scLength scFault scAt scNumber piSegmentsNow o31.1 o31.2.1 o31.2.2.1 o31.2.2.2.1 o31.2.2.2.2.1 o31.2.2.2.2.2.1 o31.2.2.2.2.2.2.1 o31.2.2.2.2.2.2.2 tiTouching tiLyingAlong tiMeetingPairs tiAlongPairs tiSize evX evY evLower evBundle evCrossingOf evEventOf evLeftEvent evRightEvent evSize evCrossings evSegmentsNow grDegree grEdges grFar grQueue grQueued huX huY huSize huBestX huBestY (xsSu S 2 (o7.1, o7.2.1, o7.2.2.1, o7.2.2.2, g2Ti, g2Sz)) Rw) → va_S (xsF X) s.heap H locs → lv_has ls 14 [(0, .ref (xsA X 0)), (1, .int a0), (2, .int a1), (5, .ref (xsA X 7)), (11, .int y12), (12, .long o40)] → W p l e { frames := 7, cells := 2, slots := 12, locals := 111 } s m ([.ref (xsA X 0), .int a0, .int a1, .int a2, .int a3] : List Value).toArray below meth c H locs 2 12 (vx_MQ below Qq Xq ([.ref (xsA X 0), .int a0, .int a1, .int a2, .int a3] : List Value).toArray s 2 12 (xsF X)) (F0 m 116 ls []) := by
          intro hf H locs ls hP hD hS hl
          unfold fX10_sight_J116 at hf
          refine lv_iload hx hb dX10_sight_116 (lv_at hl 4 rfl) ?_
          refine lv_istore (lv' := [(6, .int y12), (0, .ref (xsA X 0)), (1, .int a0), (2, .int a1), (5, .ref (xsA X 7)), (11, .int y12), (12, .long o40)]) hx hb dX10_sight_118 hl (by decide) rfl (fun ls hl => ?_)
          refine lv_lload hx hb dX10_sight_120 (lv_at hl 6 rfl) ?_
          refine lv_lstore (lv' := [(7, .long o40), (6, .int y12), (0, .ref (xsA X 0)), (1, .int a0), (2, .int a1), (5, .ref (xsA X 7)), (11, .int y12), (12, .long o40)]) hx hb dX10_sight_122 hl (by decide) rfl (fun ls hl => ?_)
          refine lv_aload hx hb dX10_sight_124 (lv_at hl 5 rfl) ?_
          refine xg_X10_233 C hP dX10_sight_126 ?_
          refine lv_lstore (lv' := [(9, .long o31.2.2.2.1), (7, .long o40), (6, .int y12), (0, .ref (xsA X 0)), (1, .int a0), (2, .int a1), (5, .ref (xsA X 7)), (11, .int y12), (12, .long o40)]) hx hb dX10_sight_129 hl (by decide) rfl (fun ls hl => ?_)
          have ev := Option.some.inj hf
          subst ev
          exact K39 y12 o40 o31.2.2.2.1 hk38 H locs ls hP hD hS (lv_sub hl [3, 4, 5, 6, 2, 1, 0, 7] rfl)
        refine lv_icmp_eq (tgt := 116) hx hb dX10_sight_96 (by decide) (fun c44 => ?_) (fun c44 => ?_)
        · replace hf := xsBr_t c44 hf
          exact K42 hf H locs ls hP hD hS (lv_sub hl [1, 2, 3, 4, 8, 0] rfl)
        · replace hf := xsBr_f c44 hf
          refine lv_lload hx hb dX10_sight_99 (lv_at hl 0 rfl) ?_
          refine lv_lload hx hb dX10_sight_101 (lv_at hl 7 rfl) ?_
          refine lv_lmul hx hb dX10_sight_103 ?_
          refine lv_lload hx hb dX10_sight_104 (lv_at hl 6 rfl) ?_
          refine lv_aload hx hb dX10_sight_106 (lv_at hl 4 rfl) ?_
          refine xg_X10_233 C hP dX10_sight_108 ?_
          refine lv_lmul hx hb dX10_sight_111 ?_
          refine xs_lcmp_ge (tgt := 131) C dX10_sight_112 dX10_sight_113 (by decide) (fun c43 => ?_) (fun c43 => ?_)
          · replace hf := xsBr_t c43 hf
            have ev := Option.some.inj hf
            subst ev
            exact K39 y9 y10 y11 hk38 H locs ls hP hD hS (lv_sub hl [1, 2, 3, 4, 5, 6, 7, 8] rfl)
          · replace hf := xsBr_f c43 hf
            exact K42 hf H locs ls hP hD hS (lv_sub hl [1, 2, 3, 4, 8, 0] rfl)
      · replace hf := xsBr_t c45 hf
        refine lv_goto (tgt := 131) hx hb dX10_sight_81 (by decide) ?_
        have ev := Option.some.inj hf
        subst ev
        exact K39 y9 y10 y11 hk38 H locs ls hP hD hS (lv_sub hl [0, 1, 2, 3, 4, 5, 6, 7] rfl)
  exact L21 ((-1 : Int32), (0 : Int64), (1 : Int64), (0 : Int32), enKind, enX, enY, enLower, enFromX, enFromY, enToX, enToY) r21 hk210 hf H locs ls hP hD hS (lv_sub hl [5, 6, 7, 4, 3, 2, 1, 0] rfl)
set_option maxRecDepth 100000 in
set_option maxHeartbeats 8000000 in
theorem mX10_box (l : Launch) (hst : l.stackTraces = false) {X : xsX} {kIsKept kIsStale hiLatest hiSize scLength scFault scAt scNumber piSegmentsNow enKind enFromX enFromY enToX enToY tiMeetingPairs tiAlongPairs tiSize evSize evCrossings evSegmentsNow grEdges grQueued huSize huBestX huBestY : Int32} {scBytes scTold tiTouching tiLyingAlong evBundle evCrossingOf evEventOf evLeftEvent evRightEvent grDegree grFar grQueue huX huY : Nat → Int32} {enX enY enLower : Int64} {evX evY evLower : Nat → Int64} {S : Nat → xsV} {Rw : va_W} {g0Lx g0Ly g0Rx g0Ry g0Ti : Nat → Int32} {g0Sz : Int32} (hs_0 : S 0 = (g0Lx, g0Ly, g0Rx, g0Ry, g0Ti, g0Sz)) {a0 : Int32} {a1 : Int32} {a2 : Int32} {a3 : Int32} {out : (Int32) ⊕ (Nat × (Unit))} (hf : fX10_box g0Lx g0Ly g0Rx g0Ry g0Sz a0 a1 a2 a3 = some out) : vx_Met l yX10_box (xsWs yX10_box cX10_box 7 (some .int)) { frames := 7, cells := 3, slots := 18, locals := 111 } (xsP X (wK X kIsKept kIsStale hiLatest hiSize scBytes scTold scLength scFault scAt scNumber piSegmentsNow enKind enX enY enLower enFromX enFromY enToX enToY tiTouching tiLyingAlong tiMeetingPairs tiAlongPairs tiSize evX evY evLower evBundle evCrossingOf evEventOf evLeftEvent evRightEvent evSize evCrossings evSegmentsNow grDegree grEdges grFar grQueue grQueued huX huY huSize huBestX huBestY S Rw) [.ref (xsA X 0), .int a0, .int a1, .int a2, .int a3]) (xsXi X (fun r u => ∃ tt, out = .inl tt ∧ r = tt ∧ u = wK X kIsKept kIsStale hiLatest hiSize scBytes scTold scLength scFault scAt scNumber piSegmentsNow enKind enX enY enLower enFromX enFromY enToX enToY tiTouching tiLyingAlong tiMeetingPairs tiAlongPairs tiSize evX evY evLower evBundle evCrossingOf evEventOf evLeftEvent evRightEvent evSize evCrossings evSegmentsNow grDegree grEdges grFar grQueue grQueued huX huY huSize huBestX huBestY S Rw)) (xsXC X (fun n u => ∃ tt, out = .inr (n, tt) ∧ u = wK X kIsKept kIsStale hiLatest hiSize scBytes scTold scLength scFault scAt scNumber piSegmentsNow enKind enX enY enLower enFromX enFromY enToX enToY tiTouching tiLyingAlong tiMeetingPairs tiAlongPairs tiSize evX evY evLower evBundle evCrossingOf evEventOf evLeftEvent evRightEvent evSize evCrossings evSegmentsNow grDegree grEdges grFar grQueue grQueued huX huY huSize huBestX huBestY S Rw)) 3 18 (xsF X) := by
  refine xs_xmet RX10 (by decide) rfl (Nat.le_of_ble_eq_true rfl) ?_
  intro p e s m below meth c ls H locs C hout hP hD hS hr hlk hl
  have hx := C.1
  have hb := C.2.1
  have hl : lv_has ls 7 [(0, .ref (xsA X 0)), (1, .int a0), (2, .int a1), (3, .int a2), (4, .int a3)] := hl
  obtain ⟨Qq, hQq⟩ : ∃ Qq, Qq = xsXi X (fun r u => ∃ tt, out = .inl tt ∧ r = tt ∧ u = wK X kIsKept kIsStale hiLatest hiSize scBytes scTold scLength scFault scAt scNumber piSegmentsNow enKind enX enY enLower enFromX enFromY enToX enToY tiTouching tiLyingAlong tiMeetingPairs tiAlongPairs tiSize evX evY evLower evBundle evCrossingOf evEventOf evLeftEvent evRightEvent evSize evCrossings evSegmentsNow grDegree grEdges grFar grQueue grQueued huX huY huSize huBestX huBestY S Rw) := ⟨_, rfl⟩
  rw [← hQq]
  obtain ⟨Xq, hXq⟩ : ∃ Xq, Xq = xsXC X (fun n u => ∃ tt, out = .inr (n, tt) ∧ u = wK X kIsKept kIsStale hiLatest hiSize scBytes scTold scLength scFault scAt scNumber piSegmentsNow enKind enX enY enLower enFromX enFromY enToX enToY tiTouching tiLyingAlong tiMeetingPairs tiAlongPairs tiSize evX evY evLower evBundle evCrossingOf evEventOf evLeftEvent evRightEvent evSize evCrossings evSegmentsNow grDegree grEdges grFar grQueue grQueued huX huY huSize huBestX huBestY S Rw) := ⟨_, rfl⟩
  rw [← hXq]
  unfold fX10_box at hf
  refine lv_iload_n hx hb dX10_box_0 rfl (lv_at hl 1 rfl) ?_
  refine lv_iload_n hx hb dX10_box_1 rfl (lv_at hl 2 rfl) ?_
  replace hf := xsBd_use hf
  obtain ⟨o1, h2, hf⟩ := hf
  refine xs_xcallv hS (xs_xrunS (As := [.int a0, .int a1]) C (mX10_checkPoint l hst  h2) w_983 w_984 w_105 w_985 hd_X10_checkPoint ⟨rfl, rfl, Nat.le_of_ble_eq_true rfl, Nat.le_of_ble_eq_true rfl, Nat.le_of_ble_eq_true rfl, Nat.le_of_ble_eq_true rfl⟩ hP hD hS hl.1 rfl (Nat.le_of_ble_eq_true rfl) dX10_box_2) (fun n u q H locs hpx hP hD hS hq => ?_) (fun u H locs hp hP hD hS => ?_)
  · obtain ⟨tx, e1, e2⟩ := hpx
    subst e1
    subst e2
    have ho := Option.some.inj hf
    subst ho
    rw [hXq]
    exact xs_xpass hlk hout ⟨_, rfl, rfl⟩ hP hD hS hq (Nat.le_of_ble_eq_true rfl) (Nat.le_of_ble_eq_true rfl)
  obtain ⟨v3, e1, e3⟩ := hp
  subst e1
  subst e3
  replace hf := xsTh_use hf
  refine W.widen (k := 1) (n := 6) (Nat.le_refl _) (Nat.le_refl _) ?_
  refine lv_iload_n hx hb dX10_box_5 rfl (lv_at hl 3 rfl) ?_
  refine lv_iload hx hb dX10_box_6 (lv_at hl 4 rfl) ?_
  replace hf := xsBd_use hf
  obtain ⟨o4, h5, hf⟩ := hf
  refine xs_xcallv hS (xs_xrunS (As := [.int a2, .int a3]) C (mX10_checkPoint l hst  h5) w_983 w_984 w_105 w_985 hd_X10_checkPoint ⟨rfl, rfl, Nat.le_of_ble_eq_true rfl, Nat.le_of_ble_eq_true rfl, Nat.le_of_ble_eq_true rfl, Nat.le_of_ble_eq_true rfl⟩ hP hD hS hl.1 rfl (Nat.le_of_ble_eq_true rfl) dX10_box_8) (fun n u q H locs hpx hP hD hS hq => ?_) (fun u H locs hp hP hD hS => ?_)
  · obtain ⟨tx, e1, e2⟩ := hpx
    subst e1
    subst e2
    have ho := Option.some.inj hf
    subst ho
    rw [hXq]
    exact xs_xpass hlk hout ⟨_, rfl, rfl⟩ hP hD hS hq (Nat.le_of_ble_eq_true rfl) (Nat.le_of_ble_eq_true rfl)
  obtain ⟨v6, e1, e3⟩ := hp
  subst e1
  subst e3
  replace hf := xsTh_use hf
  refine W.widen (k := 2) (n := 12) (Nat.le_refl _) (Nat.le_refl _) ?_
  refine lv_iload_n hx hb dX10_box_11 rfl (lv_at hl 1 rfl) ?_
  refine lv_iload_n hx hb dX10_box_12 rfl (lv_at hl 3 rfl) ?_
  refine lv_icmp_gt (tgt := 22) hx hb dX10_box_13 (by decide) (fun c22 => ?_) (fun c22 => ?_)
  · replace hf := xsBr_t c22 hf
    have ho := Option.some.inj hf
    subst ho
    rw [hXq]
    obtain ⟨sa, hsa⟩ := C.2.2.2.2.2.2.2.2.2.1.1.2.2.2.2.2.2.2.2.2.2.2.2
    exact xs_thrW 1 hst C (by decide) w_907 w_123 hsa xsBad1 hP hD hS hl.1 dX10_box_22 dX10_box_25 dX10_box_26 dX10_box_29 dX10_box_32 hout ⟨Nat.le_of_ble_eq_true rfl, Nat.le_of_ble_eq_true rfl, Nat.le_of_ble_eq_true rfl, Nat.le_of_ble_eq_true rfl⟩ hlk (Nat.le_of_ble_eq_true rfl) (Nat.le_of_ble_eq_true rfl) ⟨_, rfl, rfl⟩
  · replace hf := xsBr_f c22 hf
    refine lv_iload_n hx hb dX10_box_16 rfl (lv_at hl 2 rfl) ?_
    refine lv_iload hx hb dX10_box_17 (lv_at hl 4 rfl) ?_
    refine lv_icmp_le (tgt := 33) hx hb dX10_box_19 (by decide) (fun c21 => ?_) (fun c21 => ?_)
    · replace hf := xsBr_t c21 hf
      refine lv_iconst (v := (0 : Int32)) hx hb dX10_box_33 (by decide) ?_
      refine lv_istore (lv' := [(5, .int (0 : Int32)), (0, .ref (xsA X 0)), (1, .int a0), (2, .int a1), (3, .int a2), (4, .int a3)]) hx hb dX10_box_34 hl (by decide) rfl (fun ls hl => ?_)
      refine lv_iconst (v := (0 : Int32)) hx hb dX10_box_36 (by decide) ?_
      refine lv_istore (lv' := [(6, .int (0 : Int32)), (5, .int (0 : Int32)), (0, .ref (xsA X 0)), (1, .int a0), (2, .int a1), (3, .int a2), (4, .int a3)]) hx hb dX10_box_37 hl (by decide) rfl (fun ls hl => ?_)
      have K9 : ∀ (y10 : Int32) (hf : fX10_box_J83 y10 = some out) (H : Heap) (locs : List Loc) (ls : Array Slot), va_P (xsD X) vwCl (wK X kIsKept kIsStale hiLatest hiSize scBytes scTold scLength scFault scAt scNumber piSegmentsNow enKind enX enY enLower enFromX enFromY enToX enToY tiTouching tiLyingAlong tiMeetingPairs tiAlongPairs tiSize evX evY evLower evBundle evCrossingOf evEventOf evLeftEvent evRightEvent evSize evCrossings evSegmentsNow grDegree grEdges grFar grQueue grQueued huX huY huSize huBestX huBestY S Rw) H → va_D (xsF X) (wK X kIsKept kIsStale hiLatest hiSize scBytes scTold scLength scFault scAt scNumber piSegmentsNow enKind enX enY enLower enFromX enFromY enToX enToY tiTouching tiLyingAlong tiMeetingPairs tiAlongPairs tiSize evX evY evLower evBundle evCrossingOf evEventOf evLeftEvent evRightEvent evSize evCrossings evSegmentsNow grDegree grEdges grFar grQueue grQueued huX huY huSize huBestX huBestY S Rw) → va_S (xsF X) s.heap H locs → lv_has ls 7 [(5, .int y10)] → W p l e { frames := 7, cells := 3, slots := 18, locals := 111 } s m ([.ref (xsA X 0), .int a0, .int a1, .int a2, .int a3] : List Value).toArray below meth c H locs 2 12 (vx_MQ below Qq Xq ([.ref (xsA X 0), .int a0, .int a1, .int a2, .int a3] : List Value).toArray s 3 18 (xsF X)) (F0 m 83 ls []) := by
        intro y10 hf H locs ls hP hD hS hl
        unfold fX10_box_J83 at hf
        refine lv_iload hx hb dX10_box_83 (lv_at hl 0 rfl) ?_
        have ho := Option.some.inj hf
        subst ho
        rw [hQq]
        exact xs_xiret C hr hlk ⟨_, rfl, rfl, rfl⟩ hP hD hS (Nat.le_of_ble_eq_true rfl) (Nat.le_of_ble_eq_true rfl) dX10_box_85
      replace hf := xsBd_use hf
      obtain ⟨r9, hk90, hf⟩ := hf
      have L9 : ∀ (sg : Int32 × Int32) (rg : Int32), xsWh (fun s9 => fX10_box_L39 g0Lx g0Ly g0Rx g0Ry g0Sz a0 a1 a2 a3 s9.1 s9.2) sg = some rg → (fX10_box_J83 rg = some out → ∀ (H : Heap) (locs : List Loc) (ls : Array Slot), va_P (xsD X) vwCl (wK X kIsKept kIsStale hiLatest hiSize scBytes scTold scLength scFault scAt scNumber piSegmentsNow enKind enX enY enLower enFromX enFromY enToX enToY tiTouching tiLyingAlong tiMeetingPairs tiAlongPairs tiSize evX evY evLower evBundle evCrossingOf evEventOf evLeftEvent evRightEvent evSize evCrossings evSegmentsNow grDegree grEdges grFar grQueue grQueued huX huY huSize huBestX huBestY S Rw) H → va_D (xsF X) (wK X kIsKept kIsStale hiLatest hiSize scBytes scTold scLength scFault scAt scNumber piSegmentsNow enKind enX enY enLower enFromX enFromY enToX enToY tiTouching tiLyingAlong tiMeetingPairs tiAlongPairs tiSize evX evY evLower evBundle evCrossingOf evEventOf evLeftEvent evRightEvent evSize evCrossings evSegmentsNow grDegree grEdges grFar grQueue grQueued huX huY huSize huBestX huBestY S Rw) → va_S (xsF X) s.heap H locs → lv_has ls 7 [(0, .ref (xsA X 0)), (1, .int a0), (2, .int a1), (3, .int a2), (4, .int a3), (5, .int sg.1), (6, .int sg.2)] → W p l e { frames := 7, cells := 3, slots := 18, locals := 111 } s m ([.ref (xsA X 0), .int a0, .int a1, .int a2, .int a3] : List Value).toArray below meth c H locs 2 12 (vx_MQ below Qq Xq ([.ref (xsA X 0), .int a0, .int a1, .int a2, .int a3] : List Value).toArray s 3 18 (xsF X)) (F0 m 39 ls [])) := by
        refine xsWh_ind ?_
        intro sg r9 u9 hf ih9 hx9 hk9 H locs ls hP hD hS hl
        obtain ⟨y7, y8⟩ := sg
        replace hf : fX10_box_L39 g0Lx g0Ly g0Rx g0Ry g0Sz a0 a1 a2 a3 y7 y8 = some u9 := hf
        replace hl : lv_has ls 7 [(0, .ref (xsA X 0)), (1, .int a0), (2, .int a1), (3, .int a2), (4, .int a3), (5, .int y7), (6, .int y8)] := hl
        replace hP : va_P (xsD X) vwCl (wK X kIsKept kIsStale hiLatest hiSize scBytes scTold scLength scFault scAt scNumber piSegmentsNow enKind enX enY enLower enFromX enFromY enToX enToY tiTouching tiLyingAlong tiMeetingPairs tiAlongPairs tiSize evX evY evLower evBundle evCrossingOf evEventOf evLeftEvent evRightEvent evSize evCrossings evSegmentsNow grDegree grEdges grFar grQueue grQueued huX huY huSize huBestX huBestY S Rw) H := hP
        replace hD : va_D (xsF X) (wK X kIsKept kIsStale hiLatest hiSize scBytes scTold scLength scFault scAt scNumber piSegmentsNow enKind enX enY enLower enFromX enFromY enToX enToY tiTouching tiLyingAlong tiMeetingPairs tiAlongPairs tiSize evX evY evLower evBundle evCrossingOf evEventOf evLeftEvent evRightEvent evSize evCrossings evSegmentsNow grDegree grEdges grFar grQueue grQueued huX huY huSize huBestX huBestY S Rw) := hD
        unfold fX10_box_L39 at hf
        refine lv_iload hx hb dX10_box_39 (lv_at hl 6 rfl) ?_
        refine lv_aload_n hx hb dX10_box_41 rfl (lv_at hl 0 rfl) ?_
        refine xg_X10_10 C hP dX10_box_42 ?_
        refine xg_X10_119 (j := 0) (by decide) hs_0 C hP dX10_box_45 ?_
        refine lv_icmp_ge (tgt := 83) hx hb dX10_box_48 (by decide) (fun c20 => ?_) (fun c20 => ?_)
        · replace hf := xsBr_t c20 hf
          have ez := hx9 _ (Option.some.inj hf).symm
          subst ez
          exact K9 y7 hk9 H locs ls hP hD hS (lv_sub hl [5] rfl)
        · replace hf := xsBr_f c20 hf
          refine lv_aload_n hx hb dX10_box_51 rfl (lv_at hl 0 rfl) ?_
          refine xg_X10_10 C hP dX10_box_52 ?_
          refine lv_iload hx hb dX10_box_55 (lv_at hl 6 rfl) ?_
          refine lv_iload_n hx hb dX10_box_57 rfl (lv_at hl 1 rfl) ?_
          refine lv_iload_n hx hb dX10_box_58 rfl (lv_at hl 2 rfl) ?_
          refine lv_iload_n hx hb dX10_box_59 rfl (lv_at hl 3 rfl) ?_
          refine lv_iload hx hb dX10_box_60 (lv_at hl 4 rfl) ?_
          replace hf := xsBd_use hf
          obtain ⟨o11, h12, hf⟩ := hf
          refine xs_calli hS (xs_runV (As := [.int y8, .int a0, .int a1, .int a2, .int a3]) C (mX7_comesInto l (js := 0) (by decide) hs_0 h12) w_1322 w_1323 w_1324 w_106 w_1325 hd_X7_comesInto ⟨rfl, rfl, Nat.le_of_ble_eq_true rfl, Nat.le_of_ble_eq_true rfl, Nat.le_of_ble_eq_true rfl, Nat.le_of_ble_eq_true rfl⟩ hP hD hS (xs_lkS (by decide)) rfl hl.1 rfl (Nat.le_of_ble_eq_true rfl) dX10_box_62) (fun H locs hP hD hS => ?_)
          have K17 : ∀ (y13 : Int32) (hf : fX10_box_J77 y8 y13 = some u9) (H : Heap) (locs : List Loc) (ls : Array Slot), va_P (xsD X) vwCl (wK X kIsKept kIsStale hiLatest hiSize scBytes scTold scLength scFault scAt scNumber piSegmentsNow enKind enX enY enLower enFromX enFromY enToX enToY tiTouching tiLyingAlong tiMeetingPairs tiAlongPairs tiSize evX evY evLower evBundle evCrossingOf evEventOf evLeftEvent evRightEvent evSize evCrossings evSegmentsNow grDegree grEdges grFar grQueue grQueued huX huY huSize huBestX huBestY S Rw) H → va_D (xsF X) (wK X kIsKept kIsStale hiLatest hiSize scBytes scTold scLength scFault scAt scNumber piSegmentsNow enKind enX enY enLower enFromX enFromY enToX enToY tiTouching tiLyingAlong tiMeetingPairs tiAlongPairs tiSize evX evY evLower evBundle evCrossingOf evEventOf evLeftEvent evRightEvent evSize evCrossings evSegmentsNow grDegree grEdges grFar grQueue grQueued huX huY huSize huBestX huBestY S Rw) → va_S (xsF X) s.heap H locs → lv_has ls 7 [(0, .ref (xsA X 0)), (1, .int a0), (2, .int a1), (3, .int a2), (4, .int a3), (5, .int y13), (6, .int y8)] → W p l e { frames := 7, cells := 3, slots := 18, locals := 111 } s m ([.ref (xsA X 0), .int a0, .int a1, .int a2, .int a3] : List Value).toArray below meth c H locs 2 12 (vx_MQ below Qq Xq ([.ref (xsA X 0), .int a0, .int a1, .int a2, .int a3] : List Value).toArray s 3 18 (xsF X)) (F0 m 77 ls []) := by
            intro y13 hf H locs ls hP hD hS hl
            unfold fX10_box_J77 at hf
            obtain ⟨x14, ex14⟩ : ∃ y : Int32, y = y8 + (1 : Int32) := ⟨_, rfl⟩
            replace hf := xsLt_use ex14 hf
            refine lv_iinc (v := x14) (lv' := [(6, .int x14), (0, .ref (xsA X 0)), (1, .int a0), (2, .int a1), (3, .int a2), (4, .int a3), (5, .int y13)]) hx hb dX10_box_77 hl (k := 6) rfl (by rw [ex14]; rfl) (by decide) rfl (fun ls hl => ?_)
            refine lv_goto (tgt := 39) hx hb dX10_box_80 (by decide) ?_
            exact ih9 _ (Option.some.inj hf).symm hk9 H locs ls hP hD hS (lv_sub hl [1, 2, 3, 4, 5, 6, 0] rfl)
          replace hf := xsBd_use hf
          obtain ⟨v15, hf, hk16⟩ := hf
          refine lv_if_eq (tgt := 77) hx hb dX10_box_65 (by decide) (fun c19 => ?_) (fun c19 => ?_)
          · replace hf := xsBr_t c19 hf
            have ev := Option.some.inj hf
            subst ev
            exact K17 y7 hk16 H locs ls hP hD hS (lv_sub hl [0, 1, 2, 3, 4, 5, 6] rfl)
          · replace hf := xsBr_f c19 hf
            refine lv_iload hx hb dX10_box_68 (lv_at hl 5 rfl) ?_
            refine lv_iconst (v := (1 : Int32)) hx hb dX10_box_70 (by decide) ?_
            refine lv_iload hx hb dX10_box_71 (lv_at hl 6 rfl) ?_
            refine lv_ishl hx hb dX10_box_73 ?_
            refine lv_ior hx hb dX10_box_74 ?_
            refine lv_topi (fun x18 ex18 => ?_)
            replace hf := xsLt_use ex18 hf
            refine lv_istore (lv' := [(5, .int x18), (0, .ref (xsA X 0)), (1, .int a0), (2, .int a1), (3, .int a2), (4, .int a3), (6, .int y8)]) hx hb dX10_box_75 hl (by decide) rfl (fun ls hl => ?_)
            have ev := Option.some.inj hf
            subst ev
            exact K17 x18 hk16 H locs ls hP hD hS (lv_sub hl [1, 2, 3, 4, 5, 0, 6] rfl)
      exact L9 ((0 : Int32), (0 : Int32)) r9 hk90 hf H locs ls hP hD hS (lv_sub hl [2, 3, 4, 5, 6, 1, 0] rfl)
    · replace hf := xsBr_f c21 hf
      have ho := Option.some.inj hf
      subst ho
      rw [hXq]
      obtain ⟨sa, hsa⟩ := C.2.2.2.2.2.2.2.2.2.1.1.2.2.2.2.2.2.2.2.2.2.2.2
      exact xs_thrW 1 hst C (by decide) w_907 w_123 hsa xsBad1 hP hD hS hl.1 dX10_box_22 dX10_box_25 dX10_box_26 dX10_box_29 dX10_box_32 hout ⟨Nat.le_of_ble_eq_true rfl, Nat.le_of_ble_eq_true rfl, Nat.le_of_ble_eq_true rfl, Nat.le_of_ble_eq_true rfl⟩ hlk (Nat.le_of_ble_eq_true rfl) (Nat.le_of_ble_eq_true rfl) ⟨_, rfl, rfl⟩
set_option maxRecDepth 100000 in
set_option maxHeartbeats 8000000 in
theorem mX10_tinted (l : Launch) (hst : l.stackTraces = false) {X : xsX} {kIsKept kIsStale hiLatest hiSize scLength scFault scAt scNumber piSegmentsNow enKind enFromX enFromY enToX enToY tiMeetingPairs tiAlongPairs tiSize evSize evCrossings evSegmentsNow grEdges grQueued huSize huBestX huBestY : Int32} {scBytes scTold tiTouching tiLyingAlong evBundle evCrossingOf evEventOf evLeftEvent evRightEvent grDegree grFar grQueue huX huY : Nat → Int32} {enX enY enLower : Int64} {evX evY evLower : Nat → Int64} {S : Nat → xsV} {Rw : va_W} {g0Lx g0Ly g0Rx g0Ry g0Ti : Nat → Int32} {g0Sz : Int32} (hs_0 : S 0 = (g0Lx, g0Ly, g0Rx, g0Ry, g0Ti, g0Sz)) {a0 : Int32} {a1 : Int32} {out : (Int32 × Int32 × Int32 × Int32 × Int64 × Int64 × Int64 × Int32 × Int32 × Int32 × Int32 × (Nat → Int32) × (Nat → Int32) × Int32 × Int32 × Int32 × (Nat → Int64) × (Nat → Int64) × (Nat → Int64) × (Nat → Int32) × (Nat → Int32) × (Nat → Int32) × (Nat → Int32) × (Nat → Int32) × Int32 × Int32 × Int32 × (Nat → Int32) × Int32) ⊕ (Nat × (Int32 × Int32 × Int32 × Int64 × Int64 × Int64 × Int32 × Int32 × Int32 × Int32 × (Nat → Int32) × (Nat → Int32) × Int32 × Int32 × Int32 × (Nat → Int64) × (Nat → Int64) × (Nat → Int64) × (Nat → Int32) × (Nat → Int32) × (Nat → Int32) × (Nat → Int32) × (Nat → Int32) × Int32 × Int32 × Int32 × (Nat → Int32) × Int32))} (hf : fX10_tinted kIsStale piSegmentsNow enKind enX enY enLower enFromX enFromY enToX enToY tiTouching tiLyingAlong tiMeetingPairs tiAlongPairs tiSize evX evY evLower evBundle evCrossingOf evEventOf evLeftEvent evRightEvent evSize evCrossings evSegmentsNow grDegree grEdges g0Lx g0Ly g0Rx g0Ry g0Ti g0Sz a0 a1 = some out) : vx_Met l yX10_tinted (xsWs yX10_tinted cX10_tinted 10 (some .int)) { frames := 7, cells := 2, slots := 12, locals := 153 } (xsP X (wK X kIsKept kIsStale hiLatest hiSize scBytes scTold scLength scFault scAt scNumber piSegmentsNow enKind enX enY enLower enFromX enFromY enToX enToY tiTouching tiLyingAlong tiMeetingPairs tiAlongPairs tiSize evX evY evLower evBundle evCrossingOf evEventOf evLeftEvent evRightEvent evSize evCrossings evSegmentsNow grDegree grEdges grFar grQueue grQueued huX huY huSize huBestX huBestY S Rw) [.ref (xsA X 0), .int a0, .int a1]) (xsXi X (fun r u => ∃ tt, out = .inl tt ∧ r = tt.1 ∧ u = wK X kIsKept tt.2.1 hiLatest hiSize scBytes scTold scLength scFault scAt scNumber tt.2.2.1 tt.2.2.2.1 tt.2.2.2.2.1 tt.2.2.2.2.2.1 tt.2.2.2.2.2.2.1 tt.2.2.2.2.2.2.2.1 tt.2.2.2.2.2.2.2.2.1 tt.2.2.2.2.2.2.2.2.2.1 tt.2.2.2.2.2.2.2.2.2.2.1 tt.2.2.2.2.2.2.2.2.2.2.2.1 tt.2.2.2.2.2.2.2.2.2.2.2.2.1 tt.2.2.2.2.2.2.2.2.2.2.2.2.2.1 tt.2.2.2.2.2.2.2.2.2.2.2.2.2.2.1 tt.2.2.2.2.2.2.2.2.2.2.2.2.2.2.2.1 tt.2.2.2.2.2.2.2.2.2.2.2.2.2.2.2.2.1 tt.2.2.2.2.2.2.2.2.2.2.2.2.2.2.2.2.2.1 tt.2.2.2.2.2.2.2.2.2.2.2.2.2.2.2.2.2.2.1 tt.2.2.2.2.2.2.2.2.2.2.2.2.2.2.2.2.2.2.2.1 tt.2.2.2.2.2.2.2.2.2.2.2.2.2.2.2.2.2.2.2.2.1 tt.2.2.2.2.2.2.2.2.2.2.2.2.2.2.2.2.2.2.2.2.2.1 tt.2.2.2.2.2.2.2.2.2.2.2.2.2.2.2.2.2.2.2.2.2.2.1 tt.2.2.2.2.2.2.2.2.2.2.2.2.2.2.2.2.2.2.2.2.2.2.2.1 tt.2.2.2.2.2.2.2.2.2.2.2.2.2.2.2.2.2.2.2.2.2.2.2.2.1 tt.2.2.2.2.2.2.2.2.2.2.2.2.2.2.2.2.2.2.2.2.2.2.2.2.2.1 tt.2.2.2.2.2.2.2.2.2.2.2.2.2.2.2.2.2.2.2.2.2.2.2.2.2.2.1 tt.2.2.2.2.2.2.2.2.2.2.2.2.2.2.2.2.2.2.2.2.2.2.2.2.2.2.2.1 tt.2.2.2.2.2.2.2.2.2.2.2.2.2.2.2.2.2.2.2.2.2.2.2.2.2.2.2.2 grFar grQueue grQueued huX huY huSize huBestX huBestY S Rw)) (xsXC X (fun n u => ∃ tt, out = .inr (n, tt) ∧ u = wK X kIsKept tt.1 hiLatest hiSize scBytes scTold scLength scFault scAt scNumber tt.2.1 tt.2.2.1 tt.2.2.2.1 tt.2.2.2.2.1 tt.2.2.2.2.2.1 tt.2.2.2.2.2.2.1 tt.2.2.2.2.2.2.2.1 tt.2.2.2.2.2.2.2.2.1 tt.2.2.2.2.2.2.2.2.2.1 tt.2.2.2.2.2.2.2.2.2.2.1 tt.2.2.2.2.2.2.2.2.2.2.2.1 tt.2.2.2.2.2.2.2.2.2.2.2.2.1 tt.2.2.2.2.2.2.2.2.2.2.2.2.2.1 tt.2.2.2.2.2.2.2.2.2.2.2.2.2.2.1 tt.2.2.2.2.2.2.2.2.2.2.2.2.2.2.2.1 tt.2.2.2.2.2.2.2.2.2.2.2.2.2.2.2.2.1 tt.2.2.2.2.2.2.2.2.2.2.2.2.2.2.2.2.2.1 tt.2.2.2.2.2.2.2.2.2.2.2.2.2.2.2.2.2.2.1 tt.2.2.2.2.2.2.2.2.2.2.2.2.2.2.2.2.2.2.2.1 tt.2.2.2.2.2.2.2.2.2.2.2.2.2.2.2.2.2.2.2.2.1 tt.2.2.2.2.2.2.2.2.2.2.2.2.2.2.2.2.2.2.2.2.2.1 tt.2.2.2.2.2.2.2.2.2.2.2.2.2.2.2.2.2.2.2.2.2.2.1 tt.2.2.2.2.2.2.2.2.2.2.2.2.2.2.2.2.2.2.2.2.2.2.2.1 tt.2.2.2.2.2.2.2.2.2.2.2.2.2.2.2.2.2.2.2.2.2.2.2.2.1 tt.2.2.2.2.2.2.2.2.2.2.2.2.2.2.2.2.2.2.2.2.2.2.2.2.2.1 tt.2.2.2.2.2.2.2.2.2.2.2.2.2.2.2.2.2.2.2.2.2.2.2.2.2.2.1 tt.2.2.2.2.2.2.2.2.2.2.2.2.2.2.2.2.2.2.2.2.2.2.2.2.2.2.2 grFar grQueue grQueued huX huY huSize huBestX huBestY S Rw)) 2 12 (xsF X) := by
  refine xs_xmet RX10 (by decide) rfl (Nat.le_of_ble_eq_true rfl) ?_
  intro p e s m below meth c ls H locs C hout hP hD hS hr hlk hl
  have hx := C.1
  have hb := C.2.1
  have hl : lv_has ls 10 [(0, .ref (xsA X 0)), (1, .int a0), (2, .int a1)] := hl
  obtain ⟨Qq, hQq⟩ : ∃ Qq, Qq = xsXi X (fun r u => ∃ tt, out = .inl tt ∧ r = tt.1 ∧ u = wK X kIsKept tt.2.1 hiLatest hiSize scBytes scTold scLength scFault scAt scNumber tt.2.2.1 tt.2.2.2.1 tt.2.2.2.2.1 tt.2.2.2.2.2.1 tt.2.2.2.2.2.2.1 tt.2.2.2.2.2.2.2.1 tt.2.2.2.2.2.2.2.2.1 tt.2.2.2.2.2.2.2.2.2.1 tt.2.2.2.2.2.2.2.2.2.2.1 tt.2.2.2.2.2.2.2.2.2.2.2.1 tt.2.2.2.2.2.2.2.2.2.2.2.2.1 tt.2.2.2.2.2.2.2.2.2.2.2.2.2.1 tt.2.2.2.2.2.2.2.2.2.2.2.2.2.2.1 tt.2.2.2.2.2.2.2.2.2.2.2.2.2.2.2.1 tt.2.2.2.2.2.2.2.2.2.2.2.2.2.2.2.2.1 tt.2.2.2.2.2.2.2.2.2.2.2.2.2.2.2.2.2.1 tt.2.2.2.2.2.2.2.2.2.2.2.2.2.2.2.2.2.2.1 tt.2.2.2.2.2.2.2.2.2.2.2.2.2.2.2.2.2.2.2.1 tt.2.2.2.2.2.2.2.2.2.2.2.2.2.2.2.2.2.2.2.2.1 tt.2.2.2.2.2.2.2.2.2.2.2.2.2.2.2.2.2.2.2.2.2.1 tt.2.2.2.2.2.2.2.2.2.2.2.2.2.2.2.2.2.2.2.2.2.2.1 tt.2.2.2.2.2.2.2.2.2.2.2.2.2.2.2.2.2.2.2.2.2.2.2.1 tt.2.2.2.2.2.2.2.2.2.2.2.2.2.2.2.2.2.2.2.2.2.2.2.2.1 tt.2.2.2.2.2.2.2.2.2.2.2.2.2.2.2.2.2.2.2.2.2.2.2.2.2.1 tt.2.2.2.2.2.2.2.2.2.2.2.2.2.2.2.2.2.2.2.2.2.2.2.2.2.2.1 tt.2.2.2.2.2.2.2.2.2.2.2.2.2.2.2.2.2.2.2.2.2.2.2.2.2.2.2.1 tt.2.2.2.2.2.2.2.2.2.2.2.2.2.2.2.2.2.2.2.2.2.2.2.2.2.2.2.2 grFar grQueue grQueued huX huY huSize huBestX huBestY S Rw) := ⟨_, rfl⟩
  rw [← hQq]
  obtain ⟨Xq, hXq⟩ : ∃ Xq, Xq = xsXC X (fun n u => ∃ tt, out = .inr (n, tt) ∧ u = wK X kIsKept tt.1 hiLatest hiSize scBytes scTold scLength scFault scAt scNumber tt.2.1 tt.2.2.1 tt.2.2.2.1 tt.2.2.2.2.1 tt.2.2.2.2.2.1 tt.2.2.2.2.2.2.1 tt.2.2.2.2.2.2.2.1 tt.2.2.2.2.2.2.2.2.1 tt.2.2.2.2.2.2.2.2.2.1 tt.2.2.2.2.2.2.2.2.2.2.1 tt.2.2.2.2.2.2.2.2.2.2.2.1 tt.2.2.2.2.2.2.2.2.2.2.2.2.1 tt.2.2.2.2.2.2.2.2.2.2.2.2.2.1 tt.2.2.2.2.2.2.2.2.2.2.2.2.2.2.1 tt.2.2.2.2.2.2.2.2.2.2.2.2.2.2.2.1 tt.2.2.2.2.2.2.2.2.2.2.2.2.2.2.2.2.1 tt.2.2.2.2.2.2.2.2.2.2.2.2.2.2.2.2.2.1 tt.2.2.2.2.2.2.2.2.2.2.2.2.2.2.2.2.2.2.1 tt.2.2.2.2.2.2.2.2.2.2.2.2.2.2.2.2.2.2.2.1 tt.2.2.2.2.2.2.2.2.2.2.2.2.2.2.2.2.2.2.2.2.1 tt.2.2.2.2.2.2.2.2.2.2.2.2.2.2.2.2.2.2.2.2.2.1 tt.2.2.2.2.2.2.2.2.2.2.2.2.2.2.2.2.2.2.2.2.2.2.1 tt.2.2.2.2.2.2.2.2.2.2.2.2.2.2.2.2.2.2.2.2.2.2.2.1 tt.2.2.2.2.2.2.2.2.2.2.2.2.2.2.2.2.2.2.2.2.2.2.2.2.1 tt.2.2.2.2.2.2.2.2.2.2.2.2.2.2.2.2.2.2.2.2.2.2.2.2.2.1 tt.2.2.2.2.2.2.2.2.2.2.2.2.2.2.2.2.2.2.2.2.2.2.2.2.2.2.1 tt.2.2.2.2.2.2.2.2.2.2.2.2.2.2.2.2.2.2.2.2.2.2.2.2.2.2.2 grFar grQueue grQueued huX huY huSize huBestX huBestY S Rw) := ⟨_, rfl⟩
  rw [← hXq]
  unfold fX10_tinted at hf
  refine lv_iload_n hx hb dX10_tinted_0 rfl (lv_at hl 1 rfl) ?_
  replace hf := xsBd_use hf
  obtain ⟨o1, h2, hf⟩ := hf
  refine xs_xcallv hS (xs_xrunS (As := [.int a0]) C (mX10_checkTint l hst  h2) w_988 w_989 w_105 w_990 hd_X10_checkTint ⟨rfl, rfl, Nat.le_of_ble_eq_true rfl, Nat.le_of_ble_eq_true rfl, Nat.le_of_ble_eq_true rfl, Nat.le_of_ble_eq_true rfl⟩ hP hD hS hl.1 rfl (Nat.le_of_ble_eq_true rfl) dX10_tinted_1) (fun n u q H locs hpx hP hD hS hq => ?_) (fun u H locs hp hP hD hS => ?_)
  · obtain ⟨tx, e1, e2⟩ := hpx
    subst e1
    subst e2
    have ho := Option.some.inj hf
    subst ho
    rw [hXq]
    exact xs_xpass hlk hout ⟨_, rfl, rfl⟩ hP hD hS hq (Nat.le_of_ble_eq_true rfl) (Nat.le_of_ble_eq_true rfl)
  obtain ⟨v3, e1, e3⟩ := hp
  subst e1
  subst e3
  replace hf := xsTh_use hf
  refine W.widen (k := 1) (n := 6) (Nat.le_refl _) (Nat.le_refl _) ?_
  refine lv_iload_n hx hb dX10_tinted_4 rfl (lv_at hl 2 rfl) ?_
  replace hf := xsBd_use hf
  obtain ⟨o4, h5, hf⟩ := hf
  refine xs_xcallv hS (xs_xrunS (As := [.int a1]) C (mX10_checkTint l hst  h5) w_988 w_989 w_105 w_990 hd_X10_checkTint ⟨rfl, rfl, Nat.le_of_ble_eq_true rfl, Nat.le_of_ble_eq_true rfl, Nat.le_of_ble_eq_true rfl, Nat.le_of_ble_eq_true rfl⟩ hP hD hS hl.1 rfl (Nat.le_of_ble_eq_true rfl) dX10_tinted_5) (fun n u q H locs hpx hP hD hS hq => ?_) (fun u H locs hp hP hD hS => ?_)
  · obtain ⟨tx, e1, e2⟩ := hpx
    subst e1
    subst e2
    have ho := Option.some.inj hf
    subst ho
    rw [hXq]
    exact xs_xpass hlk hout ⟨_, rfl, rfl⟩ hP hD hS hq (Nat.le_of_ble_eq_true rfl) (Nat.le_of_ble_eq_true rfl)
  obtain ⟨v6, e1, e3⟩ := hp
  subst e1
  subst e3
  replace hf := xsTh_use hf
  refine W.widen (k := 2) (n := 12) (Nat.le_refl _) (Nat.le_refl _) ?_
  refine lv_aload_n hx hb dX10_tinted_8 rfl (lv_at hl 0 rfl) ?_
  replace hf := xsBd_use hf
  obtain ⟨o7, h8, hf⟩ := hf
  refine xs_callr hS (xs_runV (As := []) C (mX10_drawn l hs_0 h8) w_535 w_537 w_2 w_105 w_538 hd_X10_drawn ⟨rfl, rfl, Nat.le_of_ble_eq_true rfl, Nat.le_of_ble_eq_true rfl, Nat.le_of_ble_eq_true rfl, Nat.le_of_ble_eq_true rfl⟩ hP hD hS lk_X10 rfl hl.1 rfl (Nat.le_of_ble_eq_true rfl) dX10_tinted_9) (fun H locs hP hD hS => ?_)
  refine xg_X10_129 C hP dX10_tinted_12 ?_
  refine lv_astore_n (lv' := [(3, .ref (xsA X 11)), (0, .ref (xsA X 0)), (1, .int a0), (2, .int a1)]) hx hb dX10_tinted_15 rfl hl (by decide) rfl (fun ls hl => ?_)
  refine lv_iconst (v := (0 : Int32)) hx hb dX10_tinted_16 (by decide) ?_
  refine lv_istore (lv' := [(4, .int (0 : Int32)), (3, .ref (xsA X 11)), (0, .ref (xsA X 0)), (1, .int a0), (2, .int a1)]) hx hb dX10_tinted_17 hl (by decide) rfl (fun ls hl => ?_)
  refine lv_iconst (v := (0 : Int32)) hx hb dX10_tinted_19 (by decide) ?_
  refine lv_istore (lv' := [(5, .int (0 : Int32)), (4, .int (0 : Int32)), (3, .ref (xsA X 11)), (0, .ref (xsA X 0)), (1, .int a0), (2, .int a1)]) hx hb dX10_tinted_20 hl (by decide) rfl (fun ls hl => ?_)
  have K11 : ∀ (y12 : Int32) (hf : fX10_tinted_J124 o7 y12 = some out) (H : Heap) (locs : List Loc) (ls : Array Slot), va_P (xsD X) vwCl (wK X kIsKept o7.1 hiLatest hiSize scBytes scTold scLength scFault scAt scNumber o7.2.1 o7.2.2.1 o7.2.2.2.1 o7.2.2.2.2.1 o7.2.2.2.2.2.1 o7.2.2.2.2.2.2.1 o7.2.2.2.2.2.2.2.1 o7.2.2.2.2.2.2.2.2.1 o7.2.2.2.2.2.2.2.2.2.1 o7.2.2.2.2.2.2.2.2.2.2.1 o7.2.2.2.2.2.2.2.2.2.2.2.1 o7.2.2.2.2.2.2.2.2.2.2.2.2.1 o7.2.2.2.2.2.2.2.2.2.2.2.2.2.1 o7.2.2.2.2.2.2.2.2.2.2.2.2.2.2.1 o7.2.2.2.2.2.2.2.2.2.2.2.2.2.2.2.1 o7.2.2.2.2.2.2.2.2.2.2.2.2.2.2.2.2.1 o7.2.2.2.2.2.2.2.2.2.2.2.2.2.2.2.2.2.1 o7.2.2.2.2.2.2.2.2.2.2.2.2.2.2.2.2.2.2.1 o7.2.2.2.2.2.2.2.2.2.2.2.2.2.2.2.2.2.2.2.1 o7.2.2.2.2.2.2.2.2.2.2.2.2.2.2.2.2.2.2.2.2.1 o7.2.2.2.2.2.2.2.2.2.2.2.2.2.2.2.2.2.2.2.2.2.1 o7.2.2.2.2.2.2.2.2.2.2.2.2.2.2.2.2.2.2.2.2.2.2.1 o7.2.2.2.2.2.2.2.2.2.2.2.2.2.2.2.2.2.2.2.2.2.2.2.1 o7.2.2.2.2.2.2.2.2.2.2.2.2.2.2.2.2.2.2.2.2.2.2.2.2.1 o7.2.2.2.2.2.2.2.2.2.2.2.2.2.2.2.2.2.2.2.2.2.2.2.2.2.1 o7.2.2.2.2.2.2.2.2.2.2.2.2.2.2.2.2.2.2.2.2.2.2.2.2.2.2.1 o7.2.2.2.2.2.2.2.2.2.2.2.2.2.2.2.2.2.2.2.2.2.2.2.2.2.2.2 grFar grQueue grQueued huX huY huSize huBestX huBestY S Rw) H → va_D (xsF X) (wK X kIsKept o7.1 hiLatest hiSize scBytes scTold scLength scFault scAt scNumber o7.2.1 o7.2.2.1 o7.2.2.2.1 o7.2.2.2.2.1 o7.2.2.2.2.2.1 o7.2.2.2.2.2.2.1 o7.2.2.2.2.2.2.2.1 o7.2.2.2.2.2.2.2.2.1 o7.2.2.2.2.2.2.2.2.2.1 o7.2.2.2.2.2.2.2.2.2.2.1 o7.2.2.2.2.2.2.2.2.2.2.2.1 o7.2.2.2.2.2.2.2.2.2.2.2.2.1 o7.2.2.2.2.2.2.2.2.2.2.2.2.2.1 o7.2.2.2.2.2.2.2.2.2.2.2.2.2.2.1 o7.2.2.2.2.2.2.2.2.2.2.2.2.2.2.2.1 o7.2.2.2.2.2.2.2.2.2.2.2.2.2.2.2.2.1 o7.2.2.2.2.2.2.2.2.2.2.2.2.2.2.2.2.2.1 o7.2.2.2.2.2.2.2.2.2.2.2.2.2.2.2.2.2.2.1 o7.2.2.2.2.2.2.2.2.2.2.2.2.2.2.2.2.2.2.2.1 o7.2.2.2.2.2.2.2.2.2.2.2.2.2.2.2.2.2.2.2.2.1 o7.2.2.2.2.2.2.2.2.2.2.2.2.2.2.2.2.2.2.2.2.2.1 o7.2.2.2.2.2.2.2.2.2.2.2.2.2.2.2.2.2.2.2.2.2.2.1 o7.2.2.2.2.2.2.2.2.2.2.2.2.2.2.2.2.2.2.2.2.2.2.2.1 o7.2.2.2.2.2.2.2.2.2.2.2.2.2.2.2.2.2.2.2.2.2.2.2.2.1 o7.2.2.2.2.2.2.2.2.2.2.2.2.2.2.2.2.2.2.2.2.2.2.2.2.2.1 o7.2.2.2.2.2.2.2.2.2.2.2.2.2.2.2.2.2.2.2.2.2.2.2.2.2.2.1 o7.2.2.2.2.2.2.2.2.2.2.2.2.2.2.2.2.2.2.2.2.2.2.2.2.2.2.2 grFar grQueue grQueued huX huY huSize huBestX huBestY S Rw) → va_S (xsF X) s.heap H locs → lv_has ls 10 [(4, .int y12)] → W p l e { frames := 7, cells := 2, slots := 12, locals := 153 } s m ([.ref (xsA X 0), .int a0, .int a1] : List Value).toArray below meth c H locs 2 12 (vx_MQ below Qq Xq ([.ref (xsA X 0), .int a0, .int a1] : List Value).toArray s 2 12 (xsF X)) (F0 m 124 ls []) := by
    intro y12 hf H locs ls hP hD hS hl
    unfold fX10_tinted_J124 at hf
    refine lv_iload hx hb dX10_tinted_124 (lv_at hl 0 rfl) ?_
    have ho := Option.some.inj hf
    subst ho
    rw [hQq]
    exact xs_xiret C hr hlk ⟨_, rfl, rfl, rfl⟩ hP hD hS (Nat.le_of_ble_eq_true rfl) (Nat.le_of_ble_eq_true rfl) dX10_tinted_126
  replace hf := xsBd_use hf
  obtain ⟨r11, hk110, hf⟩ := hf
  have L11 : ∀ (sg : Int32 × Int32) (rg : Int32), xsWh (fun s11 => fX10_tinted_L22 g0Ti g0Sz a0 a1 o7 s11.1 s11.2) sg = some rg → (fX10_tinted_J124 o7 rg = some out → ∀ (H : Heap) (locs : List Loc) (ls : Array Slot), va_P (xsD X) vwCl (wK X kIsKept o7.1 hiLatest hiSize scBytes scTold scLength scFault scAt scNumber o7.2.1 o7.2.2.1 o7.2.2.2.1 o7.2.2.2.2.1 o7.2.2.2.2.2.1 o7.2.2.2.2.2.2.1 o7.2.2.2.2.2.2.2.1 o7.2.2.2.2.2.2.2.2.1 o7.2.2.2.2.2.2.2.2.2.1 o7.2.2.2.2.2.2.2.2.2.2.1 o7.2.2.2.2.2.2.2.2.2.2.2.1 o7.2.2.2.2.2.2.2.2.2.2.2.2.1 o7.2.2.2.2.2.2.2.2.2.2.2.2.2.1 o7.2.2.2.2.2.2.2.2.2.2.2.2.2.2.1 o7.2.2.2.2.2.2.2.2.2.2.2.2.2.2.2.1 o7.2.2.2.2.2.2.2.2.2.2.2.2.2.2.2.2.1 o7.2.2.2.2.2.2.2.2.2.2.2.2.2.2.2.2.2.1 o7.2.2.2.2.2.2.2.2.2.2.2.2.2.2.2.2.2.2.1 o7.2.2.2.2.2.2.2.2.2.2.2.2.2.2.2.2.2.2.2.1 o7.2.2.2.2.2.2.2.2.2.2.2.2.2.2.2.2.2.2.2.2.1 o7.2.2.2.2.2.2.2.2.2.2.2.2.2.2.2.2.2.2.2.2.2.1 o7.2.2.2.2.2.2.2.2.2.2.2.2.2.2.2.2.2.2.2.2.2.2.1 o7.2.2.2.2.2.2.2.2.2.2.2.2.2.2.2.2.2.2.2.2.2.2.2.1 o7.2.2.2.2.2.2.2.2.2.2.2.2.2.2.2.2.2.2.2.2.2.2.2.2.1 o7.2.2.2.2.2.2.2.2.2.2.2.2.2.2.2.2.2.2.2.2.2.2.2.2.2.1 o7.2.2.2.2.2.2.2.2.2.2.2.2.2.2.2.2.2.2.2.2.2.2.2.2.2.2.1 o7.2.2.2.2.2.2.2.2.2.2.2.2.2.2.2.2.2.2.2.2.2.2.2.2.2.2.2 grFar grQueue grQueued huX huY huSize huBestX huBestY S Rw) H → va_D (xsF X) (wK X kIsKept o7.1 hiLatest hiSize scBytes scTold scLength scFault scAt scNumber o7.2.1 o7.2.2.1 o7.2.2.2.1 o7.2.2.2.2.1 o7.2.2.2.2.2.1 o7.2.2.2.2.2.2.1 o7.2.2.2.2.2.2.2.1 o7.2.2.2.2.2.2.2.2.1 o7.2.2.2.2.2.2.2.2.2.1 o7.2.2.2.2.2.2.2.2.2.2.1 o7.2.2.2.2.2.2.2.2.2.2.2.1 o7.2.2.2.2.2.2.2.2.2.2.2.2.1 o7.2.2.2.2.2.2.2.2.2.2.2.2.2.1 o7.2.2.2.2.2.2.2.2.2.2.2.2.2.2.1 o7.2.2.2.2.2.2.2.2.2.2.2.2.2.2.2.1 o7.2.2.2.2.2.2.2.2.2.2.2.2.2.2.2.2.1 o7.2.2.2.2.2.2.2.2.2.2.2.2.2.2.2.2.2.1 o7.2.2.2.2.2.2.2.2.2.2.2.2.2.2.2.2.2.2.1 o7.2.2.2.2.2.2.2.2.2.2.2.2.2.2.2.2.2.2.2.1 o7.2.2.2.2.2.2.2.2.2.2.2.2.2.2.2.2.2.2.2.2.1 o7.2.2.2.2.2.2.2.2.2.2.2.2.2.2.2.2.2.2.2.2.2.1 o7.2.2.2.2.2.2.2.2.2.2.2.2.2.2.2.2.2.2.2.2.2.2.1 o7.2.2.2.2.2.2.2.2.2.2.2.2.2.2.2.2.2.2.2.2.2.2.2.1 o7.2.2.2.2.2.2.2.2.2.2.2.2.2.2.2.2.2.2.2.2.2.2.2.2.1 o7.2.2.2.2.2.2.2.2.2.2.2.2.2.2.2.2.2.2.2.2.2.2.2.2.2.1 o7.2.2.2.2.2.2.2.2.2.2.2.2.2.2.2.2.2.2.2.2.2.2.2.2.2.2.1 o7.2.2.2.2.2.2.2.2.2.2.2.2.2.2.2.2.2.2.2.2.2.2.2.2.2.2.2 grFar grQueue grQueued huX huY huSize huBestX huBestY S Rw) → va_S (xsF X) s.heap H locs → lv_has ls 10 [(0, .ref (xsA X 0)), (1, .int a0), (2, .int a1), (3, .ref (xsA X 11)), (4, .int sg.1), (5, .int sg.2)] → W p l e { frames := 7, cells := 2, slots := 12, locals := 153 } s m ([.ref (xsA X 0), .int a0, .int a1] : List Value).toArray below meth c H locs 2 12 (vx_MQ below Qq Xq ([.ref (xsA X 0), .int a0, .int a1] : List Value).toArray s 2 12 (xsF X)) (F0 m 22 ls [])) := by
    refine xsWh_ind ?_
    intro sg r11 u11 hf ih11 hx11 hk11 H locs ls hP hD hS hl
    obtain ⟨y9, y10⟩ := sg
    replace hf : fX10_tinted_L22 g0Ti g0Sz a0 a1 o7 y9 y10 = some u11 := hf
    replace hl : lv_has ls 10 [(0, .ref (xsA X 0)), (1, .int a0), (2, .int a1), (3, .ref (xsA X 11)), (4, .int y9), (5, .int y10)] := hl
    replace hP : va_P (xsD X) vwCl (wK X kIsKept o7.1 hiLatest hiSize scBytes scTold scLength scFault scAt scNumber o7.2.1 o7.2.2.1 o7.2.2.2.1 o7.2.2.2.2.1 o7.2.2.2.2.2.1 o7.2.2.2.2.2.2.1 o7.2.2.2.2.2.2.2.1 o7.2.2.2.2.2.2.2.2.1 o7.2.2.2.2.2.2.2.2.2.1 o7.2.2.2.2.2.2.2.2.2.2.1 o7.2.2.2.2.2.2.2.2.2.2.2.1 o7.2.2.2.2.2.2.2.2.2.2.2.2.1 o7.2.2.2.2.2.2.2.2.2.2.2.2.2.1 o7.2.2.2.2.2.2.2.2.2.2.2.2.2.2.1 o7.2.2.2.2.2.2.2.2.2.2.2.2.2.2.2.1 o7.2.2.2.2.2.2.2.2.2.2.2.2.2.2.2.2.1 o7.2.2.2.2.2.2.2.2.2.2.2.2.2.2.2.2.2.1 o7.2.2.2.2.2.2.2.2.2.2.2.2.2.2.2.2.2.2.1 o7.2.2.2.2.2.2.2.2.2.2.2.2.2.2.2.2.2.2.2.1 o7.2.2.2.2.2.2.2.2.2.2.2.2.2.2.2.2.2.2.2.2.1 o7.2.2.2.2.2.2.2.2.2.2.2.2.2.2.2.2.2.2.2.2.2.1 o7.2.2.2.2.2.2.2.2.2.2.2.2.2.2.2.2.2.2.2.2.2.2.1 o7.2.2.2.2.2.2.2.2.2.2.2.2.2.2.2.2.2.2.2.2.2.2.2.1 o7.2.2.2.2.2.2.2.2.2.2.2.2.2.2.2.2.2.2.2.2.2.2.2.2.1 o7.2.2.2.2.2.2.2.2.2.2.2.2.2.2.2.2.2.2.2.2.2.2.2.2.2.1 o7.2.2.2.2.2.2.2.2.2.2.2.2.2.2.2.2.2.2.2.2.2.2.2.2.2.2.1 o7.2.2.2.2.2.2.2.2.2.2.2.2.2.2.2.2.2.2.2.2.2.2.2.2.2.2.2 grFar grQueue grQueued huX huY huSize huBestX huBestY S Rw) H := hP
    replace hD : va_D (xsF X) (wK X kIsKept o7.1 hiLatest hiSize scBytes scTold scLength scFault scAt scNumber o7.2.1 o7.2.2.1 o7.2.2.2.1 o7.2.2.2.2.1 o7.2.2.2.2.2.1 o7.2.2.2.2.2.2.1 o7.2.2.2.2.2.2.2.1 o7.2.2.2.2.2.2.2.2.1 o7.2.2.2.2.2.2.2.2.2.1 o7.2.2.2.2.2.2.2.2.2.2.1 o7.2.2.2.2.2.2.2.2.2.2.2.1 o7.2.2.2.2.2.2.2.2.2.2.2.2.1 o7.2.2.2.2.2.2.2.2.2.2.2.2.2.1 o7.2.2.2.2.2.2.2.2.2.2.2.2.2.2.1 o7.2.2.2.2.2.2.2.2.2.2.2.2.2.2.2.1 o7.2.2.2.2.2.2.2.2.2.2.2.2.2.2.2.2.1 o7.2.2.2.2.2.2.2.2.2.2.2.2.2.2.2.2.2.1 o7.2.2.2.2.2.2.2.2.2.2.2.2.2.2.2.2.2.2.1 o7.2.2.2.2.2.2.2.2.2.2.2.2.2.2.2.2.2.2.2.1 o7.2.2.2.2.2.2.2.2.2.2.2.2.2.2.2.2.2.2.2.2.1 o7.2.2.2.2.2.2.2.2.2.2.2.2.2.2.2.2.2.2.2.2.2.1 o7.2.2.2.2.2.2.2.2.2.2.2.2.2.2.2.2.2.2.2.2.2.2.1 o7.2.2.2.2.2.2.2.2.2.2.2.2.2.2.2.2.2.2.2.2.2.2.2.1 o7.2.2.2.2.2.2.2.2.2.2.2.2.2.2.2.2.2.2.2.2.2.2.2.2.1 o7.2.2.2.2.2.2.2.2.2.2.2.2.2.2.2.2.2.2.2.2.2.2.2.2.2.1 o7.2.2.2.2.2.2.2.2.2.2.2.2.2.2.2.2.2.2.2.2.2.2.2.2.2.2.1 o7.2.2.2.2.2.2.2.2.2.2.2.2.2.2.2.2.2.2.2.2.2.2.2.2.2.2.2 grFar grQueue grQueued huX huY huSize huBestX huBestY S Rw) := hD
    unfold fX10_tinted_L22 at hf
    refine lv_iload hx hb dX10_tinted_22 (lv_at hl 5 rfl) ?_
    refine lv_aload_n hx hb dX10_tinted_24 rfl (lv_at hl 3 rfl) ?_
    refine xg_X10_133 C hP dX10_tinted_25 ?_
    refine lv_icmp_ge (tgt := 124) hx hb dX10_tinted_28 (by decide) (fun c39 => ?_) (fun c39 => ?_)
    · replace hf := xsBr_t c39 hf
      have ez := hx11 _ (Option.some.inj hf).symm
      subst ez
      exact K11 y9 hk11 H locs ls hP hD hS (lv_sub hl [4] rfl)
    · replace hf := xsBr_f c39 hf
      refine lv_aload_n hx hb dX10_tinted_31 rfl (lv_at hl 3 rfl) ?_
      refine xg_X10_260 C hP dX10_tinted_32 ?_
      refine lv_aload_n hx hb dX10_tinted_35 rfl (lv_at hl 3 rfl) ?_
      refine xg_X10_257 C hP dX10_tinted_36 ?_
      refine lv_iload hx hb dX10_tinted_39 (lv_at hl 5 rfl) ?_
      replace hf := xsCk_use hf
      obtain ⟨h13, hf⟩ := hf
      refine xl_evEventOf C hP h13 dX10_tinted_41 ?_
      replace hf := xsCk_use hf
      obtain ⟨h14, hf⟩ := hf
      refine xl_evBundle C hP h14 dX10_tinted_42 ?_
      refine lv_topi (fun x15 ex15 => ?_)
      replace hf := xsLt_use ex15 hf
      refine lv_istore (lv' := [(6, .int x15), (0, .ref (xsA X 0)), (1, .int a0), (2, .int a1), (3, .ref (xsA X 11)), (4, .int y9), (5, .int y10)]) hx hb dX10_tinted_43 hl (by decide) rfl (fun ls hl => ?_)
      refine lv_aload_n hx hb dX10_tinted_45 rfl (lv_at hl 1 rfl) ?_
      refine xg_X10_10 C hP dX10_tinted_46 ?_
      refine lv_iload_n hx hb dX10_tinted_49 rfl (lv_at hl 2 rfl) ?_
      replace hf := xsBd_use hf
      obtain ⟨o16, h17, hf⟩ := hf
      refine xs_calli hS (xs_runV (As := [.int a0]) C (mX7_ofTint l (js := 0) (by decide) hs_0 h17) w_1339 w_1340 w_1341 w_106 w_1342 hd_X7_ofTint ⟨rfl, rfl, Nat.le_of_ble_eq_true rfl, Nat.le_of_ble_eq_true rfl, Nat.le_of_ble_eq_true rfl, Nat.le_of_ble_eq_true rfl⟩ hP hD hS (xs_lkS (by decide)) rfl hl.1 rfl (Nat.le_of_ble_eq_true rfl) dX10_tinted_50) (fun H locs hP hD hS => ?_)
      refine lv_iload hx hb dX10_tinted_53 (lv_at hl 0 rfl) ?_
      refine lv_iand hx hb dX10_tinted_55 ?_
      refine lv_topi (fun x18 ex18 => ?_)
      replace hf := xsLt_use ex18 hf
      refine lv_istore (lv' := [(7, .int x18), (6, .int x15), (0, .ref (xsA X 0)), (1, .int a0), (2, .int a1), (3, .ref (xsA X 11)), (4, .int y9), (5, .int y10)]) hx hb dX10_tinted_56 hl (by decide) rfl (fun ls hl => ?_)
      refine lv_aload_n hx hb dX10_tinted_58 rfl (lv_at hl 2 rfl) ?_
      refine xg_X10_10 C hP dX10_tinted_59 ?_
      refine lv_iload_n hx hb dX10_tinted_62 rfl (lv_at hl 4 rfl) ?_
      replace hf := xsBd_use hf
      obtain ⟨o19, h20, hf⟩ := hf
      refine xs_calli hS (xs_runV (As := [.int a1]) C (mX7_ofTint l (js := 0) (by decide) hs_0 h20) w_1339 w_1340 w_1341 w_106 w_1342 hd_X7_ofTint ⟨rfl, rfl, Nat.le_of_ble_eq_true rfl, Nat.le_of_ble_eq_true rfl, Nat.le_of_ble_eq_true rfl, Nat.le_of_ble_eq_true rfl⟩ hP hD hS (xs_lkS (by decide)) rfl hl.1 rfl (Nat.le_of_ble_eq_true rfl) dX10_tinted_63) (fun H locs hP hD hS => ?_)
      refine lv_iload hx hb dX10_tinted_66 (lv_at hl 1 rfl) ?_
      refine lv_iand hx hb dX10_tinted_68 ?_
      refine lv_topi (fun x21 ex21 => ?_)
      replace hf := xsLt_use ex21 hf
      refine lv_istore (lv' := [(8, .int x21), (7, .int x18), (6, .int x15), (0, .ref (xsA X 0)), (1, .int a0), (2, .int a1), (3, .ref (xsA X 11)), (4, .int y9), (5, .int y10)]) hx hb dX10_tinted_69 hl (by decide) rfl (fun ls hl => ?_)
      refine lv_iload_n hx hb dX10_tinted_71 rfl (lv_at hl 4 rfl) ?_
      refine lv_iload_n hx hb dX10_tinted_72 rfl (lv_at hl 5 rfl) ?_
      have K32 : ∀ (y22 : Int32) (hf : fX10_tinted_J108 y9 y10 y22 = some u11) (H : Heap) (locs : List Loc) (ls : Array Slot), va_P (xsD X) vwCl (wK X kIsKept o7.1 hiLatest hiSize scBytes scTold scLength scFault scAt scNumber o7.2.1 o7.2.2.1 o7.2.2.2.1 o7.2.2.2.2.1 o7.2.2.2.2.2.1 o7.2.2.2.2.2.2.1 o7.2.2.2.2.2.2.2.1 o7.2.2.2.2.2.2.2.2.1 o7.2.2.2.2.2.2.2.2.2.1 o7.2.2.2.2.2.2.2.2.2.2.1 o7.2.2.2.2.2.2.2.2.2.2.2.1 o7.2.2.2.2.2.2.2.2.2.2.2.2.1 o7.2.2.2.2.2.2.2.2.2.2.2.2.2.1 o7.2.2.2.2.2.2.2.2.2.2.2.2.2.2.1 o7.2.2.2.2.2.2.2.2.2.2.2.2.2.2.2.1 o7.2.2.2.2.2.2.2.2.2.2.2.2.2.2.2.2.1 o7.2.2.2.2.2.2.2.2.2.2.2.2.2.2.2.2.2.1 o7.2.2.2.2.2.2.2.2.2.2.2.2.2.2.2.2.2.2.1 o7.2.2.2.2.2.2.2.2.2.2.2.2.2.2.2.2.2.2.2.1 o7.2.2.2.2.2.2.2.2.2.2.2.2.2.2.2.2.2.2.2.2.1 o7.2.2.2.2.2.2.2.2.2.2.2.2.2.2.2.2.2.2.2.2.2.1 o7.2.2.2.2.2.2.2.2.2.2.2.2.2.2.2.2.2.2.2.2.2.2.1 o7.2.2.2.2.2.2.2.2.2.2.2.2.2.2.2.2.2.2.2.2.2.2.2.1 o7.2.2.2.2.2.2.2.2.2.2.2.2.2.2.2.2.2.2.2.2.2.2.2.2.1 o7.2.2.2.2.2.2.2.2.2.2.2.2.2.2.2.2.2.2.2.2.2.2.2.2.2.1 o7.2.2.2.2.2.2.2.2.2.2.2.2.2.2.2.2.2.2.2.2.2.2.2.2.2.2.1 o7.2.2.2.2.2.2.2.2.2.2.2.2.2.2.2.2.2.2.2.2.2.2.2.2.2.2.2 grFar grQueue grQueued huX huY huSize huBestX huBestY S Rw) H → va_D (xsF X) (wK X kIsKept o7.1 hiLatest hiSize scBytes scTold scLength scFault scAt scNumber o7.2.1 o7.2.2.1 o7.2.2.2.1 o7.2.2.2.2.1 o7.2.2.2.2.2.1 o7.2.2.2.2.2.2.1 o7.2.2.2.2.2.2.2.1 o7.2.2.2.2.2.2.2.2.1 o7.2.2.2.2.2.2.2.2.2.1 o7.2.2.2.2.2.2.2.2.2.2.1 o7.2.2.2.2.2.2.2.2.2.2.2.1 o7.2.2.2.2.2.2.2.2.2.2.2.2.1 o7.2.2.2.2.2.2.2.2.2.2.2.2.2.1 o7.2.2.2.2.2.2.2.2.2.2.2.2.2.2.1 o7.2.2.2.2.2.2.2.2.2.2.2.2.2.2.2.1 o7.2.2.2.2.2.2.2.2.2.2.2.2.2.2.2.2.1 o7.2.2.2.2.2.2.2.2.2.2.2.2.2.2.2.2.2.1 o7.2.2.2.2.2.2.2.2.2.2.2.2.2.2.2.2.2.2.1 o7.2.2.2.2.2.2.2.2.2.2.2.2.2.2.2.2.2.2.2.1 o7.2.2.2.2.2.2.2.2.2.2.2.2.2.2.2.2.2.2.2.2.1 o7.2.2.2.2.2.2.2.2.2.2.2.2.2.2.2.2.2.2.2.2.2.1 o7.2.2.2.2.2.2.2.2.2.2.2.2.2.2.2.2.2.2.2.2.2.2.1 o7.2.2.2.2.2.2.2.2.2.2.2.2.2.2.2.2.2.2.2.2.2.2.2.1 o7.2.2.2.2.2.2.2.2.2.2.2.2.2.2.2.2.2.2.2.2.2.2.2.2.1 o7.2.2.2.2.2.2.2.2.2.2.2.2.2.2.2.2.2.2.2.2.2.2.2.2.2.1 o7.2.2.2.2.2.2.2.2.2.2.2.2.2.2.2.2.2.2.2.2.2.2.2.2.2.2.1 o7.2.2.2.2.2.2.2.2.2.2.2.2.2.2.2.2.2.2.2.2.2.2.2.2.2.2.2 grFar grQueue grQueued huX huY huSize huBestX huBestY S Rw) → va_S (xsF X) s.heap H locs → lv_has ls 10 [(0, .ref (xsA X 0)), (1, .int a0), (2, .int a1), (3, .ref (xsA X 11)), (4, .int y9), (5, .int y10)] → W p l e { frames := 7, cells := 2, slots := 12, locals := 153 } s m ([.ref (xsA X 0), .int a0, .int a1] : List Value).toArray below meth c H locs 2 12 (vx_MQ below Qq Xq ([.ref (xsA X 0), .int a0, .int a1] : List Value).toArray s 2 12 (xsF X)) (F0 m 108 ls [.int y22]) := by
        intro y22 hf H locs ls hP hD hS hl
        unfold fX10_tinted_J108 at hf
        refine lv_istore (lv' := [(9, .int y22), (0, .ref (xsA X 0)), (1, .int a0), (2, .int a1), (3, .ref (xsA X 11)), (4, .int y9), (5, .int y10)]) hx hb dX10_tinted_108 hl (by decide) rfl (fun ls hl => ?_)
        refine lv_iload hx hb dX10_tinted_110 (lv_at hl 0 rfl) ?_
        have K27 : ∀ (y23 : Int32) (hf : fX10_tinted_J118 y10 y23 = some u11) (H : Heap) (locs : List Loc) (ls : Array Slot), va_P (xsD X) vwCl (wK X kIsKept o7.1 hiLatest hiSize scBytes scTold scLength scFault scAt scNumber o7.2.1 o7.2.2.1 o7.2.2.2.1 o7.2.2.2.2.1 o7.2.2.2.2.2.1 o7.2.2.2.2.2.2.1 o7.2.2.2.2.2.2.2.1 o7.2.2.2.2.2.2.2.2.1 o7.2.2.2.2.2.2.2.2.2.1 o7.2.2.2.2.2.2.2.2.2.2.1 o7.2.2.2.2.2.2.2.2.2.2.2.1 o7.2.2.2.2.2.2.2.2.2.2.2.2.1 o7.2.2.2.2.2.2.2.2.2.2.2.2.2.1 o7.2.2.2.2.2.2.2.2.2.2.2.2.2.2.1 o7.2.2.2.2.2.2.2.2.2.2.2.2.2.2.2.1 o7.2.2.2.2.2.2.2.2.2.2.2.2.2.2.2.2.1 o7.2.2.2.2.2.2.2.2.2.2.2.2.2.2.2.2.2.1 o7.2.2.2.2.2.2.2.2.2.2.2.2.2.2.2.2.2.2.1 o7.2.2.2.2.2.2.2.2.2.2.2.2.2.2.2.2.2.2.2.1 o7.2.2.2.2.2.2.2.2.2.2.2.2.2.2.2.2.2.2.2.2.1 o7.2.2.2.2.2.2.2.2.2.2.2.2.2.2.2.2.2.2.2.2.2.1 o7.2.2.2.2.2.2.2.2.2.2.2.2.2.2.2.2.2.2.2.2.2.2.1 o7.2.2.2.2.2.2.2.2.2.2.2.2.2.2.2.2.2.2.2.2.2.2.2.1 o7.2.2.2.2.2.2.2.2.2.2.2.2.2.2.2.2.2.2.2.2.2.2.2.2.1 o7.2.2.2.2.2.2.2.2.2.2.2.2.2.2.2.2.2.2.2.2.2.2.2.2.2.1 o7.2.2.2.2.2.2.2.2.2.2.2.2.2.2.2.2.2.2.2.2.2.2.2.2.2.2.1 o7.2.2.2.2.2.2.2.2.2.2.2.2.2.2.2.2.2.2.2.2.2.2.2.2.2.2.2 grFar grQueue grQueued huX huY huSize huBestX huBestY S Rw) H → va_D (xsF X) (wK X kIsKept o7.1 hiLatest hiSize scBytes scTold scLength scFault scAt scNumber o7.2.1 o7.2.2.1 o7.2.2.2.1 o7.2.2.2.2.1 o7.2.2.2.2.2.1 o7.2.2.2.2.2.2.1 o7.2.2.2.2.2.2.2.1 o7.2.2.2.2.2.2.2.2.1 o7.2.2.2.2.2.2.2.2.2.1 o7.2.2.2.2.2.2.2.2.2.2.1 o7.2.2.2.2.2.2.2.2.2.2.2.1 o7.2.2.2.2.2.2.2.2.2.2.2.2.1 o7.2.2.2.2.2.2.2.2.2.2.2.2.2.1 o7.2.2.2.2.2.2.2.2.2.2.2.2.2.2.1 o7.2.2.2.2.2.2.2.2.2.2.2.2.2.2.2.1 o7.2.2.2.2.2.2.2.2.2.2.2.2.2.2.2.2.1 o7.2.2.2.2.2.2.2.2.2.2.2.2.2.2.2.2.2.1 o7.2.2.2.2.2.2.2.2.2.2.2.2.2.2.2.2.2.2.1 o7.2.2.2.2.2.2.2.2.2.2.2.2.2.2.2.2.2.2.2.1 o7.2.2.2.2.2.2.2.2.2.2.2.2.2.2.2.2.2.2.2.2.1 o7.2.2.2.2.2.2.2.2.2.2.2.2.2.2.2.2.2.2.2.2.2.1 o7.2.2.2.2.2.2.2.2.2.2.2.2.2.2.2.2.2.2.2.2.2.2.1 o7.2.2.2.2.2.2.2.2.2.2.2.2.2.2.2.2.2.2.2.2.2.2.2.1 o7.2.2.2.2.2.2.2.2.2.2.2.2.2.2.2.2.2.2.2.2.2.2.2.2.1 o7.2.2.2.2.2.2.2.2.2.2.2.2.2.2.2.2.2.2.2.2.2.2.2.2.2.1 o7.2.2.2.2.2.2.2.2.2.2.2.2.2.2.2.2.2.2.2.2.2.2.2.2.2.2.1 o7.2.2.2.2.2.2.2.2.2.2.2.2.2.2.2.2.2.2.2.2.2.2.2.2.2.2.2 grFar grQueue grQueued huX huY huSize huBestX huBestY S Rw) → va_S (xsF X) s.heap H locs → lv_has ls 10 [(0, .ref (xsA X 0)), (1, .int a0), (2, .int a1), (3, .ref (xsA X 11)), (4, .int y23), (5, .int y10)] → W p l e { frames := 7, cells := 2, slots := 12, locals := 153 } s m ([.ref (xsA X 0), .int a0, .int a1] : List Value).toArray below meth c H locs 2 12 (vx_MQ below Qq Xq ([.ref (xsA X 0), .int a0, .int a1] : List Value).toArray s 2 12 (xsF X)) (F0 m 118 ls []) := by
          intro y23 hf H locs ls hP hD hS hl
          unfold fX10_tinted_J118 at hf
          obtain ⟨x24, ex24⟩ : ∃ y : Int32, y = y10 + (1 : Int32) := ⟨_, rfl⟩
          replace hf := xsLt_use ex24 hf
          refine lv_iinc (v := x24) (lv' := [(5, .int x24), (0, .ref (xsA X 0)), (1, .int a0), (2, .int a1), (3, .ref (xsA X 11)), (4, .int y23)]) hx hb dX10_tinted_118 hl (k := 5) rfl (by rw [ex24]; rfl) (by decide) rfl (fun ls hl => ?_)
          refine lv_goto (tgt := 22) hx hb dX10_tinted_121 (by decide) ?_
          exact ih11 _ (Option.some.inj hf).symm hk11 H locs ls hP hD hS (lv_sub hl [1, 2, 3, 4, 5, 0] rfl)
        replace hf := xsBd_use hf
        obtain ⟨v25, hf, hk26⟩ := hf
        refine lv_if_eq (tgt := 118) hx hb dX10_tinted_112 (by decide) (fun c29 => ?_) (fun c29 => ?_)
        · replace hf := xsBr_t c29 hf
          have ev := Option.some.inj hf
          subst ev
          exact K27 y9 hk26 H locs ls hP hD hS (lv_sub hl [1, 2, 3, 4, 5, 6] rfl)
        · replace hf := xsBr_f c29 hf
          obtain ⟨x28, ex28⟩ : ∃ y : Int32, y = y9 + (1 : Int32) := ⟨_, rfl⟩
          replace hf := xsLt_use ex28 hf
          refine lv_iinc (v := x28) (lv' := [(4, .int x28), (9, .int y22), (0, .ref (xsA X 0)), (1, .int a0), (2, .int a1), (3, .ref (xsA X 11)), (5, .int y10)]) hx hb dX10_tinted_115 hl (k := 5) rfl (by rw [ex28]; rfl) (by decide) rfl (fun ls hl => ?_)
          have ev := Option.some.inj hf
          subst ev
          exact K27 x28 hk26 H locs ls hP hD hS (lv_sub hl [2, 3, 4, 5, 0, 6] rfl)
      replace hf := xsBd_use hf
      obtain ⟨v30, hf, hk31⟩ := hf
      refine lv_icmp_ne (tgt := 93) hx hb dX10_tinted_73 (by decide) (fun c38 => ?_) (fun c38 => ?_)
      · replace hf := xsBr_f c38 hf
        refine lv_iload hx hb dX10_tinted_93 (lv_at hl 1 rfl) ?_
        refine lv_if_eq (tgt := 107) hx hb dX10_tinted_95 (by decide) (fun c34 => ?_) (fun c34 => ?_)
        · replace hf := xsBr_t c34 hf
          refine lv_iconst (v := (0 : Int32)) hx hb dX10_tinted_107 (by decide) ?_
          have ev := Option.some.inj hf
          subst ev
          exact K32 (0 : Int32) hk31 H locs ls hP hD hS (lv_sub hl [3, 4, 5, 6, 7, 8] rfl)
        · replace hf := xsBr_f c34 hf
          refine lv_iload hx hb dX10_tinted_98 (lv_at hl 0 rfl) ?_
          refine lv_if_eq (tgt := 107) hx hb dX10_tinted_100 (by decide) (fun c33 => ?_) (fun c33 => ?_)
          · replace hf := xsBr_t c33 hf
            refine lv_iconst (v := (0 : Int32)) hx hb dX10_tinted_107 (by decide) ?_
            have ev := Option.some.inj hf
            subst ev
            exact K32 (0 : Int32) hk31 H locs ls hP hD hS (lv_sub hl [3, 4, 5, 6, 7, 8] rfl)
          · replace hf := xsBr_f c33 hf
            refine lv_iconst (v := (1 : Int32)) hx hb dX10_tinted_103 (by decide) ?_
            refine lv_goto (tgt := 108) hx hb dX10_tinted_104 (by decide) ?_
            have ev := Option.some.inj hf
            subst ev
            exact K32 (1 : Int32) hk31 H locs ls hP hD hS (lv_sub hl [3, 4, 5, 6, 7, 8] rfl)
      · replace hf := xsBr_t c38 hf
        refine lv_iload hx hb dX10_tinted_76 (lv_at hl 1 rfl) ?_
        replace hf := xsBd_use hf
        obtain ⟨o35, h36, hf⟩ := hf
        refine xs_calli hS (xs_runS (As := [.int x18]) C (mJ6_bitCount_0f7a4 l  h36) w_1169 w_608 w_128 w_609 hd_J6_bitCount_0f7a4 ⟨rfl, rfl, Nat.le_of_ble_eq_true rfl, Nat.le_of_ble_eq_true rfl, Nat.le_of_ble_eq_true rfl, Nat.le_of_ble_eq_true rfl⟩ hP hD hS hl.1 rfl (Nat.le_of_ble_eq_true rfl) dX10_tinted_78) (fun H locs hP hD hS => ?_)
        refine lv_iconst (v := (1 : Int32)) hx hb dX10_tinted_81 (by decide) ?_
        refine lv_icmp_le (tgt := 89) hx hb dX10_tinted_82 (by decide) (fun c37 => ?_) (fun c37 => ?_)
        · replace hf := xsBr_t c37 hf
          refine lv_iconst (v := (0 : Int32)) hx hb dX10_tinted_89 (by decide) ?_
          refine lv_goto (tgt := 108) hx hb dX10_tinted_90 (by decide) ?_
          have ev := Option.some.inj hf
          subst ev
          exact K32 (0 : Int32) hk31 H locs ls hP hD hS (lv_sub hl [3, 4, 5, 6, 7, 8] rfl)
        · replace hf := xsBr_f c37 hf
          refine lv_iconst (v := (1 : Int32)) hx hb dX10_tinted_85 (by decide) ?_
          refine lv_goto (tgt := 108) hx hb dX10_tinted_86 (by decide) ?_
          have ev := Option.some.inj hf
          subst ev
          exact K32 (1 : Int32) hk31 H locs ls hP hD hS (lv_sub hl [3, 4, 5, 6, 7, 8] rfl)
  exact L11 ((0 : Int32), (0 : Int32)) r11 hk110 hf H locs ls hP hD hS (lv_sub hl [3, 4, 5, 2, 1, 0] rfl)
