/-- the law's row for answers -/
abbrev xsOc (X : xsX) (f : Nat → Int64) : Nat × va_E := (xsA X 131, .inl (xsCJ X, 1, .inr (.inl f)))
def xsCd : List (Nat × Int32) → Nat → Int32
  | [], _ => 0
  | (k, r) :: t, n => if n = k then r else xsCd t n
section XSLW
variable {p : Program} {l : Launch} {e : Env} {R : Room} {s : State} {m : MethodId} {args : Array Value} {below : List Frame} {meth : Method} {c : Code} {H : Heap} {locs : List Loc} {cells slots mc ms : Nat} {Q : State → Prop}
variable {cc : ByteArray} {pc nL index : Nat} {ls : Array Slot} {rest st As : List Value} {own : String} {X : xsX} {w : va_W} {y : MethodName} {b : ByteArray} {nM : Nat} {ret : Option FieldType} {rm : Room} {Qc : Array Value → State → Outcome → State → Prop} {XC : String → State → State → Prop} {S : Nat → xsV} {Rw : va_W}
variable {kIsKept kIsStale hiLatest hiSize scLength scFault scAt scNumber piSegmentsNow enKind enFromX enFromY enToX enToY tiMeetingPairs tiAlongPairs tiSize evSize evCrossings evSegmentsNow grEdges grQueued huSize huBestX huBestY : Int32} {scBytes scTold tiTouching tiLyingAlong evBundle evCrossingOf evEventOf evLeftEvent evRightEvent grDegree grFar grQueue huX huY : Nat → Int32} {enX enY enLower : Int64} {evX evY evLower : Nat → Int64}
theorem xs_lmet (own : String) (hy : plainName y.cls = true) (hown : y.cls = own) {av : List Value} (hav : (lg_sl av).length ≤ nM) {hh : List (Nat × Nat × Nat × Nat)}
    (body : ∀ (p : Program) (e : Env) (s : State) (m : MethodId) (below : List Frame) (meth : Method) (c : Code) (ls : Array Slot) (H : Heap) (locs : List Loc), xsC p s m c b av.toArray own nM X → c.exceptionTable.toList = tableOf hh → va_P (xsD X) vwCl w H → va_D (xsF X) w → va_S (xsF X) s.heap H locs → meth.sig.returnType = ret → meth.locks = false → lv_has ls nM (lv_args 0 av) →
      W p l e rm s m av.toArray below meth c H locs 0 0 (vx_MQ below Qc XC av.toArray s mc ms (xsF X)) (F0 m 0 ls [])) : vx_Met l y (Cond.codeWith y b nM ret hh :: xsGt) rm (xsP X w av) Qc XC mc ms (xsF X) := by
  refine vx_ofWH (cc := b) (maxL := nM) (ret := ret) hy rfl ?_
  intro p e s m args below meth c s₁ B hml hv
  obtain ⟨rfl, hE, hP, hD⟩ := hv
  have hts := atoms_spec (ws := Cond.codeWith y b nM ret hh :: xsGt) B.pre
  have hl := lv_entry av hav
  rw [lg_entry_eq]
  generalize (lg_sl av ++ List.replicate (nM - (lg_sl av).length) Slot.unset).toArray = ls at hl ⊢
  exact body p e s m below meth c ls s.heap [] ⟨B.exec, B.bytes, hml, hown ▸ findClass_of_methodNamed B.named, fun w h => hts w (List.mem_cons_of_mem _ h), hE⟩ (vx_table (x := y) B (hts _ List.mem_cons_self)) hP hD va_S.rf B.returns B.notSynchronized hl
theorem xs_lout {f : Nat → Int64} (C : xsC p s m c cc args own nL X) (hP : va_P (xsD X) vwCl (wK X kIsKept kIsStale hiLatest hiSize scBytes scTold scLength scFault scAt scNumber piSegmentsNow enKind enX enY enLower enFromX enFromY enToX enToY tiTouching tiLyingAlong tiMeetingPairs tiAlongPairs tiSize evX evY evLower evBundle evCrossingOf evEventOf evLeftEvent evRightEvent evSize evCrossings evSegmentsNow grDegree grEdges grFar grQueue grQueued huX huY huSize huBestX huBestY S (xsOc X f :: Rw)) H) (hD : va_D (xsF X) (wK X kIsKept kIsStale hiLatest hiSize scBytes scTold scLength scFault scAt scNumber piSegmentsNow enKind enX enY enLower enFromX enFromY enToX enToY tiTouching tiLyingAlong tiMeetingPairs tiAlongPairs tiSize evX evY evLower evBundle evCrossingOf evEventOf evLeftEvent evRightEvent evSize evCrossings evSegmentsNow grDegree grEdges grFar grQueue grQueued huX huY huSize huBestX huBestY S (xsOc X f :: Rw))) (hS : va_S (xsF X) s.heap H locs) {x : Int64} (hdg : decode cc pc = .ok (.lastore, 1))
    (kk : ∀ (H1 : Heap) (locs1 : List Loc), va_P (xsD X) vwCl (wK X kIsKept kIsStale hiLatest hiSize scBytes scTold scLength scFault scAt scNumber piSegmentsNow enKind enX enY enLower enFromX enFromY enToX enToY tiTouching tiLyingAlong tiMeetingPairs tiAlongPairs tiSize evX evY evLower evBundle evCrossingOf evEventOf evLeftEvent evRightEvent evSize evCrossings evSegmentsNow grDegree grEdges grFar grQueue grQueued huX huY huSize huBestX huBestY S (xsOc X (vp_updL f 0 x) :: Rw)) H1 → va_D (xsF X) (wK X kIsKept kIsStale hiLatest hiSize scBytes scTold scLength scFault scAt scNumber piSegmentsNow enKind enX enY enLower enFromX enFromY enToX enToY tiTouching tiLyingAlong tiMeetingPairs tiAlongPairs tiSize evX evY evLower evBundle evCrossingOf evEventOf evLeftEvent evRightEvent evSize evCrossings evSegmentsNow grDegree grEdges grFar grQueue grQueued huX huY huSize huBestX huBestY S (xsOc X (vp_updL f 0 x) :: Rw)) → va_S (xsF X) s.heap H1 locs1 → W p l e R s m args below meth c H1 locs1 cells slots Q (F0 m (pc + 1) ls rest)) : W p l e R s m args below meth c H locs cells slots Q (F0 m pc ls (.long x :: .int 0 :: .ref (xsA X 131) :: rest)) :=
  xs_last C hP hD hS (q0 := 99) rfl (fun f' => wK X kIsKept kIsStale hiLatest hiSize scBytes scTold scLength scFault scAt scNumber piSegmentsNow enKind enX enY enLower enFromX enFromY enToX enToY tiTouching tiLyingAlong tiMeetingPairs tiAlongPairs tiSize evX evY evLower evBundle evCrossingOf evEventOf evLeftEvent evRightEvent evSize evCrossings evSegmentsNow grDegree grEdges grFar grQueue grQueued huX huY huSize huBestX huBestY S (xsOc X f' :: Rw)) (fun _ => rfl) (vp_in_nI (n := 0) (by decide) (by decide)) hdg (fun f' e H1 locs1 h1 h2 h3 => by subst e; exact kk H1 locs1 h1 h2 h3)
end XSLW
theorem w_767 : Cond.codeWith yL_acts cL_acts 3 (some .int) [(0, 8, 11, 13)] ∈ xsGt := xs_w (xsT3 _ (List.mem_of_getElem? (i := 183) rfl)) rfl
theorem hd_L_acts : yL_acts.cls ≠ "java/lang/invoke/MethodHandle" ∧ yL_acts.cls ≠ "java/lang/invoke/VarHandle" ∧ (parseMethodDescriptor yL_acts.desc).map (fun d => d.parameters.length) = some 2 := by decide +kernel
theorem w_977 : Cond.codeWith yL_add cL_add 8 (some .int) [(0, 16, 19, 13), (0, 16, 23, 19)] ∈ xsGt := xs_w (xsT4 _ (List.mem_of_getElem? (i := 153) rfl)) rfl
theorem hd_L_add : yL_add.cls ≠ "java/lang/invoke/MethodHandle" ∧ yL_add.cls ≠ "java/lang/invoke/VarHandle" ∧ (parseMethodDescriptor yL_add.desc).map (fun d => d.parameters.length) = some 7 := by decide +kernel
theorem w_1012 : Cond.codeWith yL_cut cL_cut 4 (some .int) [(0, 9, 12, 25)] ∈ xsGt := xs_w (xsT4 _ (List.mem_of_getElem? (i := 188) rfl)) rfl
theorem hd_L_cut : yL_cut.cls ≠ "java/lang/invoke/MethodHandle" ∧ yL_cut.cls ≠ "java/lang/invoke/VarHandle" ∧ (parseMethodDescriptor yL_cut.desc).map (fun d => d.parameters.length) = some 3 := by decide +kernel
theorem w_1044 : Cond.codeWith yL_move cL_move 6 (some .int) [(0, 12, 15, 25), (0, 12, 19, 13)] ∈ xsGt := xs_w (xsT4 _ (List.mem_of_getElem? (i := 220) rfl)) rfl
theorem hd_L_move : yL_move.cls ≠ "java/lang/invoke/MethodHandle" ∧ yL_move.cls ≠ "java/lang/invoke/VarHandle" ∧ (parseMethodDescriptor yL_move.desc).map (fun d => d.parameters.length) = some 5 := by decide +kernel
theorem w_1054 : Cond.codeWith yL_tint cL_tint 5 (some .int) [(0, 10, 13, 25), (0, 10, 17, 13)] ∈ xsGt := xs_w (xsT4 _ (List.mem_of_getElem? (i := 230) rfl)) rfl
theorem hd_L_tint : yL_tint.cls ≠ "java/lang/invoke/MethodHandle" ∧ yL_tint.cls ≠ "java/lang/invoke/VarHandle" ∧ (parseMethodDescriptor yL_tint.desc).map (fun d => d.parameters.length) = some 4 := by decide +kernel
theorem w_1061 : Cond.codeWith yL_undo cL_undo 3 (some .int) [(0, 8, 11, 19)] ∈ xsGt := xs_w (xsT4 _ (List.mem_of_getElem? (i := 237) rfl)) rfl
theorem hd_L_undo : yL_undo.cls ≠ "java/lang/invoke/MethodHandle" ∧ yL_undo.cls ≠ "java/lang/invoke/VarHandle" ∧ (parseMethodDescriptor yL_undo.desc).map (fun d => d.parameters.length) = some 2 := by decide +kernel
theorem w_1073 : Cond.codeWith yL_segment cL_segment 5 (some .int) [(0, 10, 13, 25), (0, 10, 17, 41)] ∈ xsGt := xs_w (xsT5 _ (List.mem_of_getElem? (i := 9) rfl)) rfl
theorem hd_L_segment : yL_segment.cls ≠ "java/lang/invoke/MethodHandle" ∧ yL_segment.cls ≠ "java/lang/invoke/VarHandle" ∧ (parseMethodDescriptor yL_segment.desc).map (fun d => d.parameters.length) = some 4 := by decide +kernel
theorem w_1113 : Cond.codeWith yL_how cL_how 5 (some .int) [(0, 10, 13, 25), (0, 10, 17, 13)] ∈ xsGt := xs_w (xsT5 _ (List.mem_of_getElem? (i := 49) rfl)) rfl
theorem hd_L_how : yL_how.cls ≠ "java/lang/invoke/MethodHandle" ∧ yL_how.cls ≠ "java/lang/invoke/VarHandle" ∧ (parseMethodDescriptor yL_how.desc).map (fun d => d.parameters.length) = some 4 := by decide +kernel
theorem w_1137 : Cond.codeWith yL_meet cL_meet 6 (some .int) [(0, 11, 14, 25), (0, 11, 18, 41), (0, 11, 22, 13), (0, 11, 26, 19)] ∈ xsGt := xs_w (xsT5 _ (List.mem_of_getElem? (i := 73) rfl)) rfl
theorem hd_L_meet : yL_meet.cls ≠ "java/lang/invoke/MethodHandle" ∧ yL_meet.cls ≠ "java/lang/invoke/VarHandle" ∧ (parseMethodDescriptor yL_meet.desc).map (fun d => d.parameters.length) = some 5 := by decide +kernel
theorem w_1156 : Cond.codeWith yL_along cL_along 6 (some .int) [(0, 12, 15, 25), (0, 12, 19, 41), (0, 12, 23, 13), (0, 12, 27, 19)] ∈ xsGt := xs_w (xsT5 _ (List.mem_of_getElem? (i := 92) rfl)) rfl
theorem hd_L_along : yL_along.cls ≠ "java/lang/invoke/MethodHandle" ∧ yL_along.cls ≠ "java/lang/invoke/VarHandle" ∧ (parseMethodDescriptor yL_along.desc).map (fun d => d.parameters.length) = some 5 := by decide +kernel
theorem w_1164 : Cond.codeWith yL_crossing cL_crossing 5 (some .int) [(0, 9, 12, 25), (0, 9, 16, 41)] ∈ xsGt := xs_w (xsT5 _ (List.mem_of_getElem? (i := 100) rfl)) rfl
theorem hd_L_crossing : yL_crossing.cls ≠ "java/lang/invoke/MethodHandle" ∧ yL_crossing.cls ≠ "java/lang/invoke/VarHandle" ∧ (parseMethodDescriptor yL_crossing.desc).map (fun d => d.parameters.length) = some 4 := by decide +kernel
theorem w_1177 : Cond.codeWith yL_event cL_event 5 (some .int) [(0, 9, 12, 25), (0, 9, 16, 41)] ∈ xsGt := xs_w (xsT5 _ (List.mem_of_getElem? (i := 113) rfl)) rfl
theorem hd_L_event : yL_event.cls ≠ "java/lang/invoke/MethodHandle" ∧ yL_event.cls ≠ "java/lang/invoke/VarHandle" ∧ (parseMethodDescriptor yL_event.desc).map (fun d => d.parameters.length) = some 4 := by decide +kernel
theorem w_1188 : Cond.codeWith yL_status cL_status 5 (some .int) [(0, 10, 13, 25)] ∈ xsGt := xs_w (xsT5 _ (List.mem_of_getElem? (i := 124) rfl)) rfl
theorem hd_L_status : yL_status.cls ≠ "java/lang/invoke/MethodHandle" ∧ yL_status.cls ≠ "java/lang/invoke/VarHandle" ∧ (parseMethodDescriptor yL_status.desc).map (fun d => d.parameters.length) = some 4 := by decide +kernel
theorem w_1200 : Cond.codeWith yL_rank cL_rank 5 (some .int) [(0, 10, 13, 25)] ∈ xsGt := xs_w (xsT5 _ (List.mem_of_getElem? (i := 136) rfl)) rfl
theorem hd_L_rank : yL_rank.cls ≠ "java/lang/invoke/MethodHandle" ∧ yL_rank.cls ≠ "java/lang/invoke/VarHandle" ∧ (parseMethodDescriptor yL_rank.desc).map (fun d => d.parameters.length) = some 4 := by decide +kernel
theorem w_1207 : Cond.codeWith yL_road cL_road 5 (some .int) [(0, 10, 13, 25)] ∈ xsGt := xs_w (xsT5 _ (List.mem_of_getElem? (i := 143) rfl)) rfl
theorem hd_L_road : yL_road.cls ≠ "java/lang/invoke/MethodHandle" ∧ yL_road.cls ≠ "java/lang/invoke/VarHandle" ∧ (parseMethodDescriptor yL_road.desc).map (fun d => d.parameters.length) = some 4 := by decide +kernel
theorem w_1226 : Cond.codeWith yL_tied cL_tied 4 (some .int) [(0, 9, 12, 25)] ∈ xsGt := xs_w (xsT5 _ (List.mem_of_getElem? (i := 162) rfl)) rfl
theorem hd_L_tied : yL_tied.cls ≠ "java/lang/invoke/MethodHandle" ∧ yL_tied.cls ≠ "java/lang/invoke/VarHandle" ∧ (parseMethodDescriptor yL_tied.desc).map (fun d => d.parameters.length) = some 3 := by decide +kernel
theorem w_1233 : Cond.codeWith yL_steps cL_steps 5 (some .int) [(0, 10, 13, 25)] ∈ xsGt := xs_w (xsT5 _ (List.mem_of_getElem? (i := 169) rfl)) rfl
theorem hd_L_steps : yL_steps.cls ≠ "java/lang/invoke/MethodHandle" ∧ yL_steps.cls ≠ "java/lang/invoke/VarHandle" ∧ (parseMethodDescriptor yL_steps.desc).map (fun d => d.parameters.length) = some 4 := by decide +kernel
theorem w_1244 : Cond.codeWith yL_hull cL_hull 5 (some .int) [(0, 10, 13, 25)] ∈ xsGt := xs_w (xsT5 _ (List.mem_of_getElem? (i := 180) rfl)) rfl
theorem hd_L_hull : yL_hull.cls ≠ "java/lang/invoke/MethodHandle" ∧ yL_hull.cls ≠ "java/lang/invoke/VarHandle" ∧ (parseMethodDescriptor yL_hull.desc).map (fun d => d.parameters.length) = some 4 := by decide +kernel
theorem w_1251 : Cond.codeWith yL_on cL_on 5 (some .int) [(0, 10, 13, 25)] ∈ xsGt := xs_w (xsT5 _ (List.mem_of_getElem? (i := 187) rfl)) rfl
theorem hd_L_on : yL_on.cls ≠ "java/lang/invoke/MethodHandle" ∧ yL_on.cls ≠ "java/lang/invoke/VarHandle" ∧ (parseMethodDescriptor yL_on.desc).map (fun d => d.parameters.length) = some 4 := by decide +kernel
theorem w_1258 : Cond.codeWith yL_at cL_at 5 (some .int) [(0, 10, 13, 13)] ∈ xsGt := xs_w (xsT5 _ (List.mem_of_getElem? (i := 194) rfl)) rfl
theorem hd_L_at : yL_at.cls ≠ "java/lang/invoke/MethodHandle" ∧ yL_at.cls ≠ "java/lang/invoke/VarHandle" ∧ (parseMethodDescriptor yL_at.desc).map (fun d => d.parameters.length) = some 4 := by decide +kernel
theorem w_1277 : Cond.codeWith yL_next cL_next 6 (some .int) [(0, 12, 15, 13)] ∈ xsGt := xs_w (xsT5 _ (List.mem_of_getElem? (i := 213) rfl)) rfl
theorem hd_L_next : yL_next.cls ≠ "java/lang/invoke/MethodHandle" ∧ yL_next.cls ≠ "java/lang/invoke/VarHandle" ∧ (parseMethodDescriptor yL_next.desc).map (fun d => d.parameters.length) = some 5 := by decide +kernel
theorem w_1290 : Cond.codeWith yL_over cL_over 5 (some .int) [(0, 10, 13, 13)] ∈ xsGt := xs_w (xsT5 _ (List.mem_of_getElem? (i := 226) rfl)) rfl
theorem hd_L_over : yL_over.cls ≠ "java/lang/invoke/MethodHandle" ∧ yL_over.cls ≠ "java/lang/invoke/VarHandle" ∧ (parseMethodDescriptor yL_over.desc).map (fun d => d.parameters.length) = some 4 := by decide +kernel
theorem w_1297 : Cond.codeWith yL_sight cL_sight 7 (some .int) [(0, 14, 17, 13)] ∈ xsGt := xs_w (xsT5 _ (List.mem_of_getElem? (i := 233) rfl)) rfl
theorem hd_L_sight : yL_sight.cls ≠ "java/lang/invoke/MethodHandle" ∧ yL_sight.cls ≠ "java/lang/invoke/VarHandle" ∧ (parseMethodDescriptor yL_sight.desc).map (fun d => d.parameters.length) = some 6 := by decide +kernel
theorem w_1316 : Cond.codeWith yL_box cL_box 7 (some .int) [(0, 14, 17, 13)] ∈ xsGt := xs_w (xsT6 _ (List.mem_of_getElem? (i := 12) rfl)) rfl
theorem hd_L_box : yL_box.cls ≠ "java/lang/invoke/MethodHandle" ∧ yL_box.cls ≠ "java/lang/invoke/VarHandle" ∧ (parseMethodDescriptor yL_box.desc).map (fun d => d.parameters.length) = some 6 := by decide +kernel
theorem w_1334 : Cond.codeWith yL_tinted cL_tinted 5 (some .int) [(0, 10, 13, 13)] ∈ xsGt := xs_w (xsT6 _ (List.mem_of_getElem? (i := 30) rfl)) rfl
theorem hd_L_tinted : yL_tinted.cls ≠ "java/lang/invoke/MethodHandle" ∧ yL_tinted.cls ≠ "java/lang/invoke/VarHandle" ∧ (parseMethodDescriptor yL_tinted.desc).map (fun d => d.parameters.length) = some 4 := by decide +kernel
set_option maxRecDepth 100000 in
set_option maxHeartbeats 8000000 in
theorem mL_acts (l : Launch) (hst : l.stackTraces = false) {X : xsX} {kIsKept kIsStale hiLatest hiSize scLength scFault scAt scNumber piSegmentsNow enKind enFromX enFromY enToX enToY tiMeetingPairs tiAlongPairs tiSize evSize evCrossings evSegmentsNow grEdges grQueued huSize huBestX huBestY : Int32} {scBytes scTold tiTouching tiLyingAlong evBundle evCrossingOf evEventOf evLeftEvent evRightEvent grDegree grFar grQueue huX huY : Nat → Int32} {enX enY enLower : Int64} {evX evY evLower : Nat → Int64} {S : Nat → xsV} {Rw : va_W} {g0Lx g0Ly g0Rx g0Ry g0Ti : Nat → Int32} {g0Sz : Int32} (hs_0 : S 0 = (g0Lx, g0Ly, g0Rx, g0Ry, g0Ti, g0Sz)) {g3Lx g3Ly g3Rx g3Ry g3Ti : Nat → Int32} {g3Sz : Int32} (hs_3 : S 3 = (g3Lx, g3Ly, g3Rx, g3Ry, g3Ti, g3Sz)) {out : (Int32 × Int32 × Int32 × (Nat → Int32) × Int32 × Int32 × Int32 × Int32 × (Nat → Int32) × (Nat → Int32) × (Nat → Int32) × (Nat → Int32) × (Nat → Int32) × Int32 × (Nat → Int32) × (Nat → Int32) × (Nat → Int32) × (Nat → Int32) × (Nat → Int32) × Int32) ⊕ (Nat × (Int32 × Int32 × (Nat → Int32) × Int32 × Int32 × Int32 × Int32 × (Nat → Int32) × (Nat → Int32) × (Nat → Int32) × (Nat → Int32) × (Nat → Int32) × Int32 × (Nat → Int32) × (Nat → Int32) × (Nat → Int32) × (Nat → Int32) × (Nat → Int32) × Int32))} {ou : Nat → Int64} (hf : fX10_acts kIsStale hiSize scBytes scTold scLength scFault scAt scNumber g0Lx g0Ly g0Rx g0Ry g0Ti g0Sz g3Lx g3Ly g3Rx g3Ry g3Ti g3Sz = some out) (hn : ∀ n tt, out = .inr (n, tt) → n = 1) : vx_Met l yL_acts (Cond.codeWith yL_acts cL_acts 3 (some .int) [(0, 8, 11, 13)] :: xsGt) { frames := 9, cells := 1, slots := 6, locals := 198 } (xsP X (wK X kIsKept kIsStale hiLatest hiSize scBytes scTold scLength scFault scAt scNumber piSegmentsNow enKind enX enY enLower enFromX enFromY enToX enToY tiTouching tiLyingAlong tiMeetingPairs tiAlongPairs tiSize evX evY evLower evBundle evCrossingOf evEventOf evLeftEvent evRightEvent evSize evCrossings evSegmentsNow grDegree grEdges grFar grQueue grQueued huX huY huSize huBestX huBestY S (xsOc X ou :: Rw)) [.ref (xsA X 0), .ref (xsA X 131)]) (xsXi X (fun r u => (∃ tt, out = .inl tt ∧ r = 0 ∧ u = wK X kIsKept tt.2.1 hiLatest tt.2.2.1 scBytes tt.2.2.2.1 tt.2.2.2.2.1 tt.2.2.2.2.2.1 tt.2.2.2.2.2.2.1 tt.2.2.2.2.2.2.2.1 piSegmentsNow enKind enX enY enLower enFromX enFromY enToX enToY tiTouching tiLyingAlong tiMeetingPairs tiAlongPairs tiSize evX evY evLower evBundle evCrossingOf evEventOf evLeftEvent evRightEvent evSize evCrossings evSegmentsNow grDegree grEdges grFar grQueue grQueued huX huY huSize huBestX huBestY (xsSu (xsSu S 0 (tt.2.2.2.2.2.2.2.2.1, tt.2.2.2.2.2.2.2.2.2.1, tt.2.2.2.2.2.2.2.2.2.2.1, tt.2.2.2.2.2.2.2.2.2.2.2.1, tt.2.2.2.2.2.2.2.2.2.2.2.2.1, tt.2.2.2.2.2.2.2.2.2.2.2.2.2.1)) 3 (tt.2.2.2.2.2.2.2.2.2.2.2.2.2.2.1, tt.2.2.2.2.2.2.2.2.2.2.2.2.2.2.2.1, tt.2.2.2.2.2.2.2.2.2.2.2.2.2.2.2.2.1, tt.2.2.2.2.2.2.2.2.2.2.2.2.2.2.2.2.2.1, tt.2.2.2.2.2.2.2.2.2.2.2.2.2.2.2.2.2.2.1, tt.2.2.2.2.2.2.2.2.2.2.2.2.2.2.2.2.2.2.2)) (xsOc X (vp_updL ou 0 tt.1.toInt64) :: Rw)) ∨ (∃ n tt, out = .inr (n, tt) ∧ r = xsCd [(1, 1)] n ∧ u = wK X kIsKept tt.1 hiLatest tt.2.1 scBytes tt.2.2.1 tt.2.2.2.1 tt.2.2.2.2.1 tt.2.2.2.2.2.1 tt.2.2.2.2.2.2.1 piSegmentsNow enKind enX enY enLower enFromX enFromY enToX enToY tiTouching tiLyingAlong tiMeetingPairs tiAlongPairs tiSize evX evY evLower evBundle evCrossingOf evEventOf evLeftEvent evRightEvent evSize evCrossings evSegmentsNow grDegree grEdges grFar grQueue grQueued huX huY huSize huBestX huBestY (xsSu (xsSu S 0 (tt.2.2.2.2.2.2.2.1, tt.2.2.2.2.2.2.2.2.1, tt.2.2.2.2.2.2.2.2.2.1, tt.2.2.2.2.2.2.2.2.2.2.1, tt.2.2.2.2.2.2.2.2.2.2.2.1, tt.2.2.2.2.2.2.2.2.2.2.2.2.1)) 3 (tt.2.2.2.2.2.2.2.2.2.2.2.2.2.1, tt.2.2.2.2.2.2.2.2.2.2.2.2.2.2.1, tt.2.2.2.2.2.2.2.2.2.2.2.2.2.2.2.1, tt.2.2.2.2.2.2.2.2.2.2.2.2.2.2.2.2.1, tt.2.2.2.2.2.2.2.2.2.2.2.2.2.2.2.2.2.1, tt.2.2.2.2.2.2.2.2.2.2.2.2.2.2.2.2.2.2)) (xsOc X ou :: Rw)))) (fun _ _ _ => False) 1 6 (xsF X) := by
  refine xs_lmet RL (by decide) rfl (Nat.le_of_ble_eq_true rfl) ?_
  intro p e s m below meth c ls H locs C htab hP hD hS hr hlk hl
  have hx := C.1
  have hb := C.2.1
  have hl : lv_has ls 3 [(0, .ref (xsA X 0)), (1, .ref (xsA X 131))] := hl
  refine lv_aload_n hx hb dL_acts_0 rfl (lv_at hl 1 rfl) ?_
  refine lv_iconst (v := 0) hx hb dL_acts_1 (by decide) ?_
  refine lv_aload_n hx hb dL_acts_2 rfl (lv_at hl 0 rfl) ?_
  refine xs_xcalli hS (xs_xrunV (As := []) (rest := [.int 0, .ref (xsA X 131)]) C (mX10_acts l hst hs_0 hs_3 hf) w_769 w_770 w_771 w_105 w_772 hd_X10_acts ⟨rfl, rfl, Nat.le_of_ble_eq_true rfl, Nat.le_of_ble_eq_true rfl, Nat.le_of_ble_eq_true rfl, Nat.le_of_ble_eq_true rfl⟩ hP hD hS lk_X10 rfl hl.1 rfl (Nat.le_of_ble_eq_true rfl) dL_acts_3) (fun n u q H locs hpx hP hD hS hq => ?_) (fun r u H locs hp hP hD hS => ?_)
  · obtain ⟨tx, e1, e2⟩ := hpx
    subst e2
    obtain ⟨ce, hq1, hq2, hq3⟩ := hq
    have en := hn n tx e1
    subst en
    refine vx_catch (own := RL) (name := "java/lang/IllegalArgumentException") (E := xsEx 1) C.2.2.2.1 [] ({ startPc := 0, endPc := 8, handlerPc := 11, catchType := 13 } : ExceptionTableEntry) [] htab (fun z hz => absurd hz List.not_mem_nil) (by decide) (by decide) (xs_kts C _ w_768) (xs_bd3 (n := 1) C _ List.mem_cons_self) hq1 hq2 hq3 ?_
    refine lv_astore_n (lv' := [(2, .ref q), (0, .ref (xsA X 0)), (1, .ref (xsA X 131))]) hx hb dL_acts_11 rfl hl (by decide) rfl (fun ls hl => ?_)
    refine lv_iconst (v := 1) hx hb dL_acts_12 (by decide) ?_
    exact xs_xiret C hr hlk (Or.inr ⟨_, _, e1, rfl, rfl⟩) hP hD hS (Nat.le_of_ble_eq_true rfl) (Nat.le_of_ble_eq_true rfl) dL_acts_13
  · obtain ⟨tx, e1, e2, e3⟩ := hp
    subst e3
    subst e2
    refine lv_i2l hx hb dL_acts_6 rfl ?_
    refine xs_lout C hP hD hS dL_acts_7 (fun H locs hP hD hS => ?_)
    refine lv_goto (tgt := 14) hx hb dL_acts_8 (by decide) ?_
    refine lv_iconst (v := 0) hx hb dL_acts_14 (by decide) ?_
    exact xs_xiret C hr hlk (Or.inl ⟨_, e1, rfl, rfl⟩) hP hD hS (Nat.le_of_ble_eq_true rfl) (Nat.le_of_ble_eq_true rfl) dL_acts_15
set_option maxRecDepth 100000 in
set_option maxHeartbeats 8000000 in
theorem mL_add (l : Launch) (hst : l.stackTraces = false) {X : xsX} {kIsKept kIsStale hiLatest hiSize scLength scFault scAt scNumber piSegmentsNow enKind enFromX enFromY enToX enToY tiMeetingPairs tiAlongPairs tiSize evSize evCrossings evSegmentsNow grEdges grQueued huSize huBestX huBestY : Int32} {scBytes scTold tiTouching tiLyingAlong evBundle evCrossingOf evEventOf evLeftEvent evRightEvent grDegree grFar grQueue huX huY : Nat → Int32} {enX enY enLower : Int64} {evX evY evLower : Nat → Int64} {S : Nat → xsV} {Rw : va_W} {g0Lx g0Ly g0Rx g0Ry g0Ti : Nat → Int32} {g0Sz : Int32} (hs_0 : S 0 = (g0Lx, g0Ly, g0Rx, g0Ry, g0Ti, g0Sz)) {hist : Nat → xsV} (hs_H : ∀ i, S (4 + i) = hist i) {a0 : Int32} {a1 : Int32} {a2 : Int32} {a3 : Int32} {a4 : Int32} {out : (Int32 × Int32 × Int32 × Int32 × (Nat → xsV) × (Nat → Int32) × (Nat → Int32) × (Nat → Int32) × (Nat → Int32) × (Nat → Int32) × Int32) ⊕ (Nat × (Int32 × Int32 × Int32 × (Nat → xsV) × (Nat → Int32) × (Nat → Int32) × (Nat → Int32) × (Nat → Int32) × (Nat → Int32) × Int32))} {ou : Nat → Int64} (hf : fX10_add kIsStale hiLatest hiSize hist g0Lx g0Ly g0Rx g0Ry g0Ti g0Sz a0 a1 a2 a3 a4 = some out) (hn : ∀ n tt, out = .inr (n, tt) → n = 1 ∨ n = 2) : vx_Met l yL_add (Cond.codeWith yL_add cL_add 8 (some .int) [(0, 16, 19, 13), (0, 16, 23, 19)] :: xsGt) { frames := 8, cells := 4, slots := 24, locals := 136 } (xsP X (wK X kIsKept kIsStale hiLatest hiSize scBytes scTold scLength scFault scAt scNumber piSegmentsNow enKind enX enY enLower enFromX enFromY enToX enToY tiTouching tiLyingAlong tiMeetingPairs tiAlongPairs tiSize evX evY evLower evBundle evCrossingOf evEventOf evLeftEvent evRightEvent evSize evCrossings evSegmentsNow grDegree grEdges grFar grQueue grQueued huX huY huSize huBestX huBestY S (xsOc X ou :: Rw)) [.ref (xsA X 0), .int a0, .int a1, .int a2, .int a3, .int a4, .ref (xsA X 131)]) (xsXi X (fun r u => (∃ tt, out = .inl tt ∧ r = 0 ∧ u = wK X kIsKept tt.2.1 tt.2.2.1 tt.2.2.2.1 scBytes scTold scLength scFault scAt scNumber piSegmentsNow enKind enX enY enLower enFromX enFromY enToX enToY tiTouching tiLyingAlong tiMeetingPairs tiAlongPairs tiSize evX evY evLower evBundle evCrossingOf evEventOf evLeftEvent evRightEvent evSize evCrossings evSegmentsNow grDegree grEdges grFar grQueue grQueued huX huY huSize huBestX huBestY (xsSu (xsHs S tt.2.2.2.2.1) 0 (tt.2.2.2.2.2.1, tt.2.2.2.2.2.2.1, tt.2.2.2.2.2.2.2.1, tt.2.2.2.2.2.2.2.2.1, tt.2.2.2.2.2.2.2.2.2.1, tt.2.2.2.2.2.2.2.2.2.2)) (xsOc X (vp_updL ou 0 tt.1.toInt64) :: Rw)) ∨ (∃ n tt, out = .inr (n, tt) ∧ r = xsCd [(1, 1), (2, 2)] n ∧ u = wK X kIsKept tt.1 tt.2.1 tt.2.2.1 scBytes scTold scLength scFault scAt scNumber piSegmentsNow enKind enX enY enLower enFromX enFromY enToX enToY tiTouching tiLyingAlong tiMeetingPairs tiAlongPairs tiSize evX evY evLower evBundle evCrossingOf evEventOf evLeftEvent evRightEvent evSize evCrossings evSegmentsNow grDegree grEdges grFar grQueue grQueued huX huY huSize huBestX huBestY (xsSu (xsHs S tt.2.2.2.1) 0 (tt.2.2.2.2.1, tt.2.2.2.2.2.1, tt.2.2.2.2.2.2.1, tt.2.2.2.2.2.2.2.1, tt.2.2.2.2.2.2.2.2.1, tt.2.2.2.2.2.2.2.2.2)) (xsOc X ou :: Rw)))) (fun _ _ _ => False) 4 24 (xsF X) := by
  refine xs_lmet RL (by decide) rfl (Nat.le_of_ble_eq_true rfl) ?_
  intro p e s m below meth c ls H locs C htab hP hD hS hr hlk hl
  have hx := C.1
  have hb := C.2.1
  have hl : lv_has ls 8 [(0, .ref (xsA X 0)), (1, .int a0), (2, .int a1), (3, .int a2), (4, .int a3), (5, .int a4), (6, .ref (xsA X 131))] := hl
  refine lv_aload hx hb dL_add_0 (lv_at hl 6 rfl) ?_
  refine lv_iconst (v := 0) hx hb dL_add_2 (by decide) ?_
  refine lv_aload_n hx hb dL_add_3 rfl (lv_at hl 0 rfl) ?_
  refine lv_iload_n hx hb dL_add_4 rfl (lv_at hl 1 rfl) ?_
  refine lv_iload_n hx hb dL_add_5 rfl (lv_at hl 2 rfl) ?_
  refine lv_iload_n hx hb dL_add_6 rfl (lv_at hl 3 rfl) ?_
  refine lv_iload hx hb dL_add_7 (lv_at hl 4 rfl) ?_
  refine lv_iload hx hb dL_add_9 (lv_at hl 5 rfl) ?_
  refine xs_xcalli hS (xs_xrunV (As := [.int a0, .int a1, .int a2, .int a3, .int a4]) (rest := [.int 0, .ref (xsA X 131)]) C (mX10_add l hst hs_0 hs_H hf) w_979 w_980 w_981 w_105 w_982 hd_X10_add ⟨rfl, rfl, Nat.le_of_ble_eq_true rfl, Nat.le_of_ble_eq_true rfl, Nat.le_of_ble_eq_true rfl, Nat.le_of_ble_eq_true rfl⟩ hP hD hS lk_X10 rfl hl.1 rfl (Nat.le_of_ble_eq_true rfl) dL_add_11) (fun n u q H locs hpx hP hD hS hq => ?_) (fun r u H locs hp hP hD hS => ?_)
  · obtain ⟨tx, e1, e2⟩ := hpx
    subst e2
    obtain ⟨ce, hq1, hq2, hq3⟩ := hq
    rcases hn n tx e1 with rfl | rfl
    · refine vx_catch (own := RL) (name := "java/lang/IllegalArgumentException") (E := xsEx 1) C.2.2.2.1 [] ({ startPc := 0, endPc := 16, handlerPc := 19, catchType := 13 } : ExceptionTableEntry) [({ startPc := 0, endPc := 16, handlerPc := 23, catchType := 19 } : ExceptionTableEntry)] htab (fun z hz => absurd hz List.not_mem_nil) (by decide) (by decide) (xs_kts C _ w_768) (xs_bd3 (n := 1) C _ List.mem_cons_self) hq1 hq2 hq3 ?_
      refine lv_astore (lv' := [(7, .ref q), (0, .ref (xsA X 0)), (1, .int a0), (2, .int a1), (3, .int a2), (4, .int a3), (5, .int a4), (6, .ref (xsA X 131))]) hx hb dL_add_19 hl (by decide) rfl (fun ls hl => ?_)
      refine lv_iconst (v := 1) hx hb dL_add_21 (by decide) ?_
      exact xs_xiret C hr hlk (Or.inr ⟨_, _, e1, rfl, rfl⟩) hP hD hS (Nat.le_of_ble_eq_true rfl) (Nat.le_of_ble_eq_true rfl) dL_add_22
    · refine vx_catch (own := RL) (name := "java/lang/IllegalStateException") (E := xsEx 2) C.2.2.2.1 [({ startPc := 0, endPc := 16, handlerPc := 19, catchType := 13 } : ExceptionTableEntry)] ({ startPc := 0, endPc := 16, handlerPc := 23, catchType := 19 } : ExceptionTableEntry) [] htab (fun z hz => by
      simp only [List.mem_cons, List.mem_nil_iff, or_false] at hz
      rcases hz with rfl
      · exact Or.inr ⟨by decide, "java/lang/IllegalArgumentException", xs_kts C _ w_768, C.2.2.2.2.2.2.2.2.2.1.2.2.1.2.2.2.1⟩) (by decide) (by decide) (xs_kts C _ w_978) (xs_bd3 (n := 2) C _ List.mem_cons_self) hq1 hq2 hq3 ?_
      refine lv_astore (lv' := [(7, .ref q), (0, .ref (xsA X 0)), (1, .int a0), (2, .int a1), (3, .int a2), (4, .int a3), (5, .int a4), (6, .ref (xsA X 131))]) hx hb dL_add_23 hl (by decide) rfl (fun ls hl => ?_)
      refine lv_iconst (v := 2) hx hb dL_add_25 (by decide) ?_
      exact xs_xiret C hr hlk (Or.inr ⟨_, _, e1, rfl, rfl⟩) hP hD hS (Nat.le_of_ble_eq_true rfl) (Nat.le_of_ble_eq_true rfl) dL_add_26
  · obtain ⟨tx, e1, e2, e3⟩ := hp
    subst e3
    subst e2
    refine lv_i2l hx hb dL_add_14 rfl ?_
    refine xs_lout C hP hD hS dL_add_15 (fun H locs hP hD hS => ?_)
    refine lv_goto (tgt := 27) hx hb dL_add_16 (by decide) ?_
    refine lv_iconst (v := 0) hx hb dL_add_27 (by decide) ?_
    exact xs_xiret C hr hlk (Or.inl ⟨_, e1, rfl, rfl⟩) hP hD hS (Nat.le_of_ble_eq_true rfl) (Nat.le_of_ble_eq_true rfl) dL_add_28
set_option maxRecDepth 100000 in
set_option maxHeartbeats 8000000 in
theorem mL_cut (l : Launch) (hst : l.stackTraces = false) {X : xsX} {kIsKept kIsStale hiLatest hiSize scLength scFault scAt scNumber piSegmentsNow enKind enFromX enFromY enToX enToY tiMeetingPairs tiAlongPairs tiSize evSize evCrossings evSegmentsNow grEdges grQueued huSize huBestX huBestY : Int32} {scBytes scTold tiTouching tiLyingAlong evBundle evCrossingOf evEventOf evLeftEvent evRightEvent grDegree grFar grQueue huX huY : Nat → Int32} {enX enY enLower : Int64} {evX evY evLower : Nat → Int64} {S : Nat → xsV} {Rw : va_W} {g0Lx g0Ly g0Rx g0Ry g0Ti : Nat → Int32} {g0Sz : Int32} (hs_0 : S 0 = (g0Lx, g0Ly, g0Rx, g0Ry, g0Ti, g0Sz)) {hist : Nat → xsV} (hs_H : ∀ i, S (4 + i) = hist i) {a0 : Int32} {out : (Int32 × Int32 × Int32 × Int32 × Int32 × Int32 × Int64 × Int64 × Int64 × Int32 × Int32 × Int32 × Int32 × (Nat → Int32) × (Nat → Int32) × Int32 × Int32 × Int32 × (Nat → Int64) × (Nat → Int64) × (Nat → Int64) × (Nat → Int32) × (Nat → Int32) × (Nat → Int32) × (Nat → Int32) × (Nat → Int32) × Int32 × Int32 × Int32 × (Nat → Int32) × Int32 × (Nat → xsV) × (Nat → Int32) × (Nat → Int32) × (Nat → Int32) × (Nat → Int32) × (Nat → Int32) × Int32) ⊕ (Nat × (Int32 × Int32 × Int32 × Int32 × Int32 × Int64 × Int64 × Int64 × Int32 × Int32 × Int32 × Int32 × (Nat → Int32) × (Nat → Int32) × Int32 × Int32 × Int32 × (Nat → Int64) × (Nat → Int64) × (Nat → Int64) × (Nat → Int32) × (Nat → Int32) × (Nat → Int32) × (Nat → Int32) × (Nat → Int32) × Int32 × Int32 × Int32 × (Nat → Int32) × Int32 × (Nat → xsV) × (Nat → Int32) × (Nat → Int32) × (Nat → Int32) × (Nat → Int32) × (Nat → Int32) × Int32))} {ou : Nat → Int64} (hf : fX10_cut kIsStale hiLatest hiSize piSegmentsNow enKind enX enY enLower enFromX enFromY enToX enToY tiTouching tiLyingAlong tiMeetingPairs tiAlongPairs tiSize evX evY evLower evBundle evCrossingOf evEventOf evLeftEvent evRightEvent evSize evCrossings evSegmentsNow grDegree grEdges hist g0Lx g0Ly g0Rx g0Ry g0Ti g0Sz a0 = some out) (hn : ∀ n tt, out = .inr (n, tt) → n = 3) : vx_Met l yL_cut (Cond.codeWith yL_cut cL_cut 4 (some .int) [(0, 9, 12, 25)] :: xsGt) { frames := 9, cells := 1, slots := 6, locals := 175 } (xsP X (wK X kIsKept kIsStale hiLatest hiSize scBytes scTold scLength scFault scAt scNumber piSegmentsNow enKind enX enY enLower enFromX enFromY enToX enToY tiTouching tiLyingAlong tiMeetingPairs tiAlongPairs tiSize evX evY evLower evBundle evCrossingOf evEventOf evLeftEvent evRightEvent evSize evCrossings evSegmentsNow grDegree grEdges grFar grQueue grQueued huX huY huSize huBestX huBestY S (xsOc X ou :: Rw)) [.ref (xsA X 0), .int a0, .ref (xsA X 131)]) (xsXi X (fun r u => (∃ tt, out = .inl tt ∧ r = 0 ∧ u = wK X kIsKept tt.2.1 tt.2.2.1 tt.2.2.2.1 scBytes scTold scLength scFault scAt scNumber tt.2.2.2.2.1 tt.2.2.2.2.2.1 tt.2.2.2.2.2.2.1 tt.2.2.2.2.2.2.2.1 tt.2.2.2.2.2.2.2.2.1 tt.2.2.2.2.2.2.2.2.2.1 tt.2.2.2.2.2.2.2.2.2.2.1 tt.2.2.2.2.2.2.2.2.2.2.2.1 tt.2.2.2.2.2.2.2.2.2.2.2.2.1 tt.2.2.2.2.2.2.2.2.2.2.2.2.2.1 tt.2.2.2.2.2.2.2.2.2.2.2.2.2.2.1 tt.2.2.2.2.2.2.2.2.2.2.2.2.2.2.2.1 tt.2.2.2.2.2.2.2.2.2.2.2.2.2.2.2.2.1 tt.2.2.2.2.2.2.2.2.2.2.2.2.2.2.2.2.2.1 tt.2.2.2.2.2.2.2.2.2.2.2.2.2.2.2.2.2.2.1 tt.2.2.2.2.2.2.2.2.2.2.2.2.2.2.2.2.2.2.2.1 tt.2.2.2.2.2.2.2.2.2.2.2.2.2.2.2.2.2.2.2.2.1 tt.2.2.2.2.2.2.2.2.2.2.2.2.2.2.2.2.2.2.2.2.2.1 tt.2.2.2.2.2.2.2.2.2.2.2.2.2.2.2.2.2.2.2.2.2.2.1 tt.2.2.2.2.2.2.2.2.2.2.2.2.2.2.2.2.2.2.2.2.2.2.2.1 tt.2.2.2.2.2.2.2.2.2.2.2.2.2.2.2.2.2.2.2.2.2.2.2.2.1 tt.2.2.2.2.2.2.2.2.2.2.2.2.2.2.2.2.2.2.2.2.2.2.2.2.2.1 tt.2.2.2.2.2.2.2.2.2.2.2.2.2.2.2.2.2.2.2.2.2.2.2.2.2.2.1 tt.2.2.2.2.2.2.2.2.2.2.2.2.2.2.2.2.2.2.2.2.2.2.2.2.2.2.2.1 tt.2.2.2.2.2.2.2.2.2.2.2.2.2.2.2.2.2.2.2.2.2.2.2.2.2.2.2.2.1 tt.2.2.2.2.2.2.2.2.2.2.2.2.2.2.2.2.2.2.2.2.2.2.2.2.2.2.2.2.2.1 tt.2.2.2.2.2.2.2.2.2.2.2.2.2.2.2.2.2.2.2.2.2.2.2.2.2.2.2.2.2.2.1 grFar grQueue grQueued huX huY huSize huBestX huBestY (xsSu (xsHs S tt.2.2.2.2.2.2.2.2.2.2.2.2.2.2.2.2.2.2.2.2.2.2.2.2.2.2.2.2.2.2.2.1) 0 (tt.2.2.2.2.2.2.2.2.2.2.2.2.2.2.2.2.2.2.2.2.2.2.2.2.2.2.2.2.2.2.2.2.1, tt.2.2.2.2.2.2.2.2.2.2.2.2.2.2.2.2.2.2.2.2.2.2.2.2.2.2.2.2.2.2.2.2.2.1, tt.2.2.2.2.2.2.2.2.2.2.2.2.2.2.2.2.2.2.2.2.2.2.2.2.2.2.2.2.2.2.2.2.2.2.1, tt.2.2.2.2.2.2.2.2.2.2.2.2.2.2.2.2.2.2.2.2.2.2.2.2.2.2.2.2.2.2.2.2.2.2.2.1, tt.2.2.2.2.2.2.2.2.2.2.2.2.2.2.2.2.2.2.2.2.2.2.2.2.2.2.2.2.2.2.2.2.2.2.2.2.1, tt.2.2.2.2.2.2.2.2.2.2.2.2.2.2.2.2.2.2.2.2.2.2.2.2.2.2.2.2.2.2.2.2.2.2.2.2.2)) (xsOc X (vp_updL ou 0 tt.1.toInt64) :: Rw)) ∨ (∃ n tt, out = .inr (n, tt) ∧ r = xsCd [(3, 1)] n ∧ u = wK X kIsKept tt.1 tt.2.1 tt.2.2.1 scBytes scTold scLength scFault scAt scNumber tt.2.2.2.1 tt.2.2.2.2.1 tt.2.2.2.2.2.1 tt.2.2.2.2.2.2.1 tt.2.2.2.2.2.2.2.1 tt.2.2.2.2.2.2.2.2.1 tt.2.2.2.2.2.2.2.2.2.1 tt.2.2.2.2.2.2.2.2.2.2.1 tt.2.2.2.2.2.2.2.2.2.2.2.1 tt.2.2.2.2.2.2.2.2.2.2.2.2.1 tt.2.2.2.2.2.2.2.2.2.2.2.2.2.1 tt.2.2.2.2.2.2.2.2.2.2.2.2.2.2.1 tt.2.2.2.2.2.2.2.2.2.2.2.2.2.2.2.1 tt.2.2.2.2.2.2.2.2.2.2.2.2.2.2.2.2.1 tt.2.2.2.2.2.2.2.2.2.2.2.2.2.2.2.2.2.1 tt.2.2.2.2.2.2.2.2.2.2.2.2.2.2.2.2.2.2.1 tt.2.2.2.2.2.2.2.2.2.2.2.2.2.2.2.2.2.2.2.1 tt.2.2.2.2.2.2.2.2.2.2.2.2.2.2.2.2.2.2.2.2.1 tt.2.2.2.2.2.2.2.2.2.2.2.2.2.2.2.2.2.2.2.2.2.1 tt.2.2.2.2.2.2.2.2.2.2.2.2.2.2.2.2.2.2.2.2.2.2.1 tt.2.2.2.2.2.2.2.2.2.2.2.2.2.2.2.2.2.2.2.2.2.2.2.1 tt.2.2.2.2.2.2.2.2.2.2.2.2.2.2.2.2.2.2.2.2.2.2.2.2.1 tt.2.2.2.2.2.2.2.2.2.2.2.2.2.2.2.2.2.2.2.2.2.2.2.2.2.1 tt.2.2.2.2.2.2.2.2.2.2.2.2.2.2.2.2.2.2.2.2.2.2.2.2.2.2.1 tt.2.2.2.2.2.2.2.2.2.2.2.2.2.2.2.2.2.2.2.2.2.2.2.2.2.2.2.1 tt.2.2.2.2.2.2.2.2.2.2.2.2.2.2.2.2.2.2.2.2.2.2.2.2.2.2.2.2.1 tt.2.2.2.2.2.2.2.2.2.2.2.2.2.2.2.2.2.2.2.2.2.2.2.2.2.2.2.2.2.1 grFar grQueue grQueued huX huY huSize huBestX huBestY (xsSu (xsHs S tt.2.2.2.2.2.2.2.2.2.2.2.2.2.2.2.2.2.2.2.2.2.2.2.2.2.2.2.2.2.2.1) 0 (tt.2.2.2.2.2.2.2.2.2.2.2.2.2.2.2.2.2.2.2.2.2.2.2.2.2.2.2.2.2.2.2.1, tt.2.2.2.2.2.2.2.2.2.2.2.2.2.2.2.2.2.2.2.2.2.2.2.2.2.2.2.2.2.2.2.2.1, tt.2.2.2.2.2.2.2.2.2.2.2.2.2.2.2.2.2.2.2.2.2.2.2.2.2.2.2.2.2.2.2.2.2.1, tt.2.2.2.2.2.2.2.2.2.2.2.2.2.2.2.2.2.2.2.2.2.2.2.2.2.2.2.2.2.2.2.2.2.2.1, tt.2.2.2.2.2.2.2.2.2.2.2.2.2.2.2.2.2.2.2.2.2.2.2.2.2.2.2.2.2.2.2.2.2.2.2.1, tt.2.2.2.2.2.2.2.2.2.2.2.2.2.2.2.2.2.2.2.2.2.2.2.2.2.2.2.2.2.2.2.2.2.2.2.2)) (xsOc X ou :: Rw)))) (fun _ _ _ => False) 1 6 (xsF X) := by
  refine xs_lmet RL (by decide) rfl (Nat.le_of_ble_eq_true rfl) ?_
  intro p e s m below meth c ls H locs C htab hP hD hS hr hlk hl
  have hx := C.1
  have hb := C.2.1
  have hl : lv_has ls 4 [(0, .ref (xsA X 0)), (1, .int a0), (2, .ref (xsA X 131))] := hl
  refine lv_aload_n hx hb dL_cut_0 rfl (lv_at hl 2 rfl) ?_
  refine lv_iconst (v := 0) hx hb dL_cut_1 (by decide) ?_
  refine lv_aload_n hx hb dL_cut_2 rfl (lv_at hl 0 rfl) ?_
  refine lv_iload_n hx hb dL_cut_3 rfl (lv_at hl 1 rfl) ?_
  refine xs_xcalli hS (xs_xrunV (As := [.int a0]) (rest := [.int 0, .ref (xsA X 131)]) C (mX10_cut l hst hs_0 hs_H hf) w_1014 w_1015 w_1016 w_105 w_1017 hd_X10_cut ⟨rfl, rfl, Nat.le_of_ble_eq_true rfl, Nat.le_of_ble_eq_true rfl, Nat.le_of_ble_eq_true rfl, Nat.le_of_ble_eq_true rfl⟩ hP hD hS lk_X10 rfl hl.1 rfl (Nat.le_of_ble_eq_true rfl) dL_cut_4) (fun n u q H locs hpx hP hD hS hq => ?_) (fun r u H locs hp hP hD hS => ?_)
  · obtain ⟨tx, e1, e2⟩ := hpx
    subst e2
    obtain ⟨ce, hq1, hq2, hq3⟩ := hq
    have en := hn n tx e1
    subst en
    refine vx_catch (own := RL) (name := "java/lang/IndexOutOfBoundsException") (E := xsEx 3) C.2.2.2.1 [] ({ startPc := 0, endPc := 9, handlerPc := 12, catchType := 25 } : ExceptionTableEntry) [] htab (fun z hz => absurd hz List.not_mem_nil) (by decide) (by decide) (xs_kts C _ w_1013) (xs_bd3 (n := 3) C _ List.mem_cons_self) hq1 hq2 hq3 ?_
    refine lv_astore_n (lv' := [(3, .ref q), (0, .ref (xsA X 0)), (1, .int a0), (2, .ref (xsA X 131))]) hx hb dL_cut_12 rfl hl (by decide) rfl (fun ls hl => ?_)
    refine lv_iconst (v := 1) hx hb dL_cut_13 (by decide) ?_
    exact xs_xiret C hr hlk (Or.inr ⟨_, _, e1, rfl, rfl⟩) hP hD hS (Nat.le_of_ble_eq_true rfl) (Nat.le_of_ble_eq_true rfl) dL_cut_14
  · obtain ⟨tx, e1, e2, e3⟩ := hp
    subst e3
    subst e2
    refine lv_i2l hx hb dL_cut_7 rfl ?_
    refine xs_lout C hP hD hS dL_cut_8 (fun H locs hP hD hS => ?_)
    refine lv_goto (tgt := 15) hx hb dL_cut_9 (by decide) ?_
    refine lv_iconst (v := 0) hx hb dL_cut_15 (by decide) ?_
    exact xs_xiret C hr hlk (Or.inl ⟨_, e1, rfl, rfl⟩) hP hD hS (Nat.le_of_ble_eq_true rfl) (Nat.le_of_ble_eq_true rfl) dL_cut_16
set_option maxRecDepth 100000 in
set_option maxHeartbeats 8000000 in
theorem mL_move (l : Launch) (hst : l.stackTraces = false) {X : xsX} {kIsKept kIsStale hiLatest hiSize scLength scFault scAt scNumber piSegmentsNow enKind enFromX enFromY enToX enToY tiMeetingPairs tiAlongPairs tiSize evSize evCrossings evSegmentsNow grEdges grQueued huSize huBestX huBestY : Int32} {scBytes scTold tiTouching tiLyingAlong evBundle evCrossingOf evEventOf evLeftEvent evRightEvent grDegree grFar grQueue huX huY : Nat → Int32} {enX enY enLower : Int64} {evX evY evLower : Nat → Int64} {S : Nat → xsV} {Rw : va_W} {g0Lx g0Ly g0Rx g0Ry g0Ti : Nat → Int32} {g0Sz : Int32} (hs_0 : S 0 = (g0Lx, g0Ly, g0Rx, g0Ry, g0Ti, g0Sz)) {hist : Nat → xsV} (hs_H : ∀ i, S (4 + i) = hist i) {a0 : Int32} {a1 : Int32} {a2 : Int32} {out : (Int32 × Int32 × Int32 × Int32 × Int32 × Int32 × Int64 × Int64 × Int64 × Int32 × Int32 × Int32 × Int32 × (Nat → Int32) × (Nat → Int32) × Int32 × Int32 × Int32 × (Nat → Int64) × (Nat → Int64) × (Nat → Int64) × (Nat → Int32) × (Nat → Int32) × (Nat → Int32) × (Nat → Int32) × (Nat → Int32) × Int32 × Int32 × Int32 × (Nat → Int32) × Int32 × (Nat → xsV) × (Nat → Int32) × (Nat → Int32) × (Nat → Int32) × (Nat → Int32)) ⊕ (Nat × (Int32 × Int32 × Int32 × Int32 × Int32 × Int64 × Int64 × Int64 × Int32 × Int32 × Int32 × Int32 × (Nat → Int32) × (Nat → Int32) × Int32 × Int32 × Int32 × (Nat → Int64) × (Nat → Int64) × (Nat → Int64) × (Nat → Int32) × (Nat → Int32) × (Nat → Int32) × (Nat → Int32) × (Nat → Int32) × Int32 × Int32 × Int32 × (Nat → Int32) × Int32 × (Nat → xsV) × (Nat → Int32) × (Nat → Int32) × (Nat → Int32) × (Nat → Int32)))} {ou : Nat → Int64} (hf : fX10_move kIsStale hiLatest hiSize piSegmentsNow enKind enX enY enLower enFromX enFromY enToX enToY tiTouching tiLyingAlong tiMeetingPairs tiAlongPairs tiSize evX evY evLower evBundle evCrossingOf evEventOf evLeftEvent evRightEvent evSize evCrossings evSegmentsNow grDegree grEdges hist g0Lx g0Ly g0Rx g0Ry g0Ti g0Sz a0 a1 a2 = some out) (hn : ∀ n tt, out = .inr (n, tt) → n = 3 ∨ n = 1) : vx_Met l yL_move (Cond.codeWith yL_move cL_move 6 (some .int) [(0, 12, 15, 25), (0, 12, 19, 13)] :: xsGt) { frames := 9, cells := 2, slots := 12, locals := 176 } (xsP X (wK X kIsKept kIsStale hiLatest hiSize scBytes scTold scLength scFault scAt scNumber piSegmentsNow enKind enX enY enLower enFromX enFromY enToX enToY tiTouching tiLyingAlong tiMeetingPairs tiAlongPairs tiSize evX evY evLower evBundle evCrossingOf evEventOf evLeftEvent evRightEvent evSize evCrossings evSegmentsNow grDegree grEdges grFar grQueue grQueued huX huY huSize huBestX huBestY S (xsOc X ou :: Rw)) [.ref (xsA X 0), .int a0, .int a1, .int a2, .ref (xsA X 131)]) (xsXi X (fun r u => (∃ tt, out = .inl tt ∧ r = 0 ∧ u = wK X kIsKept tt.2.1 tt.2.2.1 tt.2.2.2.1 scBytes scTold scLength scFault scAt scNumber tt.2.2.2.2.1 tt.2.2.2.2.2.1 tt.2.2.2.2.2.2.1 tt.2.2.2.2.2.2.2.1 tt.2.2.2.2.2.2.2.2.1 tt.2.2.2.2.2.2.2.2.2.1 tt.2.2.2.2.2.2.2.2.2.2.1 tt.2.2.2.2.2.2.2.2.2.2.2.1 tt.2.2.2.2.2.2.2.2.2.2.2.2.1 tt.2.2.2.2.2.2.2.2.2.2.2.2.2.1 tt.2.2.2.2.2.2.2.2.2.2.2.2.2.2.1 tt.2.2.2.2.2.2.2.2.2.2.2.2.2.2.2.1 tt.2.2.2.2.2.2.2.2.2.2.2.2.2.2.2.2.1 tt.2.2.2.2.2.2.2.2.2.2.2.2.2.2.2.2.2.1 tt.2.2.2.2.2.2.2.2.2.2.2.2.2.2.2.2.2.2.1 tt.2.2.2.2.2.2.2.2.2.2.2.2.2.2.2.2.2.2.2.1 tt.2.2.2.2.2.2.2.2.2.2.2.2.2.2.2.2.2.2.2.2.1 tt.2.2.2.2.2.2.2.2.2.2.2.2.2.2.2.2.2.2.2.2.2.1 tt.2.2.2.2.2.2.2.2.2.2.2.2.2.2.2.2.2.2.2.2.2.2.1 tt.2.2.2.2.2.2.2.2.2.2.2.2.2.2.2.2.2.2.2.2.2.2.2.1 tt.2.2.2.2.2.2.2.2.2.2.2.2.2.2.2.2.2.2.2.2.2.2.2.2.1 tt.2.2.2.2.2.2.2.2.2.2.2.2.2.2.2.2.2.2.2.2.2.2.2.2.2.1 tt.2.2.2.2.2.2.2.2.2.2.2.2.2.2.2.2.2.2.2.2.2.2.2.2.2.2.1 tt.2.2.2.2.2.2.2.2.2.2.2.2.2.2.2.2.2.2.2.2.2.2.2.2.2.2.2.1 tt.2.2.2.2.2.2.2.2.2.2.2.2.2.2.2.2.2.2.2.2.2.2.2.2.2.2.2.2.1 tt.2.2.2.2.2.2.2.2.2.2.2.2.2.2.2.2.2.2.2.2.2.2.2.2.2.2.2.2.2.1 tt.2.2.2.2.2.2.2.2.2.2.2.2.2.2.2.2.2.2.2.2.2.2.2.2.2.2.2.2.2.2.1 grFar grQueue grQueued huX huY huSize huBestX huBestY (xsSu (xsHs S tt.2.2.2.2.2.2.2.2.2.2.2.2.2.2.2.2.2.2.2.2.2.2.2.2.2.2.2.2.2.2.2.1) 0 (tt.2.2.2.2.2.2.2.2.2.2.2.2.2.2.2.2.2.2.2.2.2.2.2.2.2.2.2.2.2.2.2.2.1, tt.2.2.2.2.2.2.2.2.2.2.2.2.2.2.2.2.2.2.2.2.2.2.2.2.2.2.2.2.2.2.2.2.2.1, tt.2.2.2.2.2.2.2.2.2.2.2.2.2.2.2.2.2.2.2.2.2.2.2.2.2.2.2.2.2.2.2.2.2.2.1, tt.2.2.2.2.2.2.2.2.2.2.2.2.2.2.2.2.2.2.2.2.2.2.2.2.2.2.2.2.2.2.2.2.2.2.2, g0Ti, g0Sz)) (xsOc X (vp_updL ou 0 tt.1.toInt64) :: Rw)) ∨ (∃ n tt, out = .inr (n, tt) ∧ r = xsCd [(3, 1), (1, 2)] n ∧ u = wK X kIsKept tt.1 tt.2.1 tt.2.2.1 scBytes scTold scLength scFault scAt scNumber tt.2.2.2.1 tt.2.2.2.2.1 tt.2.2.2.2.2.1 tt.2.2.2.2.2.2.1 tt.2.2.2.2.2.2.2.1 tt.2.2.2.2.2.2.2.2.1 tt.2.2.2.2.2.2.2.2.2.1 tt.2.2.2.2.2.2.2.2.2.2.1 tt.2.2.2.2.2.2.2.2.2.2.2.1 tt.2.2.2.2.2.2.2.2.2.2.2.2.1 tt.2.2.2.2.2.2.2.2.2.2.2.2.2.1 tt.2.2.2.2.2.2.2.2.2.2.2.2.2.2.1 tt.2.2.2.2.2.2.2.2.2.2.2.2.2.2.2.1 tt.2.2.2.2.2.2.2.2.2.2.2.2.2.2.2.2.1 tt.2.2.2.2.2.2.2.2.2.2.2.2.2.2.2.2.2.1 tt.2.2.2.2.2.2.2.2.2.2.2.2.2.2.2.2.2.2.1 tt.2.2.2.2.2.2.2.2.2.2.2.2.2.2.2.2.2.2.2.1 tt.2.2.2.2.2.2.2.2.2.2.2.2.2.2.2.2.2.2.2.2.1 tt.2.2.2.2.2.2.2.2.2.2.2.2.2.2.2.2.2.2.2.2.2.1 tt.2.2.2.2.2.2.2.2.2.2.2.2.2.2.2.2.2.2.2.2.2.2.1 tt.2.2.2.2.2.2.2.2.2.2.2.2.2.2.2.2.2.2.2.2.2.2.2.1 tt.2.2.2.2.2.2.2.2.2.2.2.2.2.2.2.2.2.2.2.2.2.2.2.2.1 tt.2.2.2.2.2.2.2.2.2.2.2.2.2.2.2.2.2.2.2.2.2.2.2.2.2.1 tt.2.2.2.2.2.2.2.2.2.2.2.2.2.2.2.2.2.2.2.2.2.2.2.2.2.2.1 tt.2.2.2.2.2.2.2.2.2.2.2.2.2.2.2.2.2.2.2.2.2.2.2.2.2.2.2.1 tt.2.2.2.2.2.2.2.2.2.2.2.2.2.2.2.2.2.2.2.2.2.2.2.2.2.2.2.2.1 tt.2.2.2.2.2.2.2.2.2.2.2.2.2.2.2.2.2.2.2.2.2.2.2.2.2.2.2.2.2.1 grFar grQueue grQueued huX huY huSize huBestX huBestY (xsSu (xsHs S tt.2.2.2.2.2.2.2.2.2.2.2.2.2.2.2.2.2.2.2.2.2.2.2.2.2.2.2.2.2.2.1) 0 (tt.2.2.2.2.2.2.2.2.2.2.2.2.2.2.2.2.2.2.2.2.2.2.2.2.2.2.2.2.2.2.2.1, tt.2.2.2.2.2.2.2.2.2.2.2.2.2.2.2.2.2.2.2.2.2.2.2.2.2.2.2.2.2.2.2.2.1, tt.2.2.2.2.2.2.2.2.2.2.2.2.2.2.2.2.2.2.2.2.2.2.2.2.2.2.2.2.2.2.2.2.2.1, tt.2.2.2.2.2.2.2.2.2.2.2.2.2.2.2.2.2.2.2.2.2.2.2.2.2.2.2.2.2.2.2.2.2.2, g0Ti, g0Sz)) (xsOc X ou :: Rw)))) (fun _ _ _ => False) 2 12 (xsF X) := by
  refine xs_lmet RL (by decide) rfl (Nat.le_of_ble_eq_true rfl) ?_
  intro p e s m below meth c ls H locs C htab hP hD hS hr hlk hl
  have hx := C.1
  have hb := C.2.1
  have hl : lv_has ls 6 [(0, .ref (xsA X 0)), (1, .int a0), (2, .int a1), (3, .int a2), (4, .ref (xsA X 131))] := hl
  refine lv_aload hx hb dL_move_0 (lv_at hl 4 rfl) ?_
  refine lv_iconst (v := 0) hx hb dL_move_2 (by decide) ?_
  refine lv_aload_n hx hb dL_move_3 rfl (lv_at hl 0 rfl) ?_
  refine lv_iload_n hx hb dL_move_4 rfl (lv_at hl 1 rfl) ?_
  refine lv_iload_n hx hb dL_move_5 rfl (lv_at hl 2 rfl) ?_
  refine lv_iload_n hx hb dL_move_6 rfl (lv_at hl 3 rfl) ?_
  refine xs_xcalli hS (xs_xrunV (As := [.int a0, .int a1, .int a2]) (rest := [.int 0, .ref (xsA X 131)]) C (mX10_move l hst hs_0 hs_H hf) w_1045 w_1046 w_1047 w_105 w_1048 hd_X10_move ⟨rfl, rfl, Nat.le_of_ble_eq_true rfl, Nat.le_of_ble_eq_true rfl, Nat.le_of_ble_eq_true rfl, Nat.le_of_ble_eq_true rfl⟩ hP hD hS lk_X10 rfl hl.1 rfl (Nat.le_of_ble_eq_true rfl) dL_move_7) (fun n u q H locs hpx hP hD hS hq => ?_) (fun r u H locs hp hP hD hS => ?_)
  · obtain ⟨tx, e1, e2⟩ := hpx
    subst e2
    obtain ⟨ce, hq1, hq2, hq3⟩ := hq
    rcases hn n tx e1 with rfl | rfl
    · refine vx_catch (own := RL) (name := "java/lang/IndexOutOfBoundsException") (E := xsEx 3) C.2.2.2.1 [] ({ startPc := 0, endPc := 12, handlerPc := 15, catchType := 25 } : ExceptionTableEntry) [({ startPc := 0, endPc := 12, handlerPc := 19, catchType := 13 } : ExceptionTableEntry)] htab (fun z hz => absurd hz List.not_mem_nil) (by decide) (by decide) (xs_kts C _ w_1013) (xs_bd3 (n := 3) C _ List.mem_cons_self) hq1 hq2 hq3 ?_
      refine lv_astore (lv' := [(5, .ref q), (0, .ref (xsA X 0)), (1, .int a0), (2, .int a1), (3, .int a2), (4, .ref (xsA X 131))]) hx hb dL_move_15 hl (by decide) rfl (fun ls hl => ?_)
      refine lv_iconst (v := 1) hx hb dL_move_17 (by decide) ?_
      exact xs_xiret C hr hlk (Or.inr ⟨_, _, e1, rfl, rfl⟩) hP hD hS (Nat.le_of_ble_eq_true rfl) (Nat.le_of_ble_eq_true rfl) dL_move_18
    · refine vx_catch (own := RL) (name := "java/lang/IllegalArgumentException") (E := xsEx 1) C.2.2.2.1 [({ startPc := 0, endPc := 12, handlerPc := 15, catchType := 25 } : ExceptionTableEntry)] ({ startPc := 0, endPc := 12, handlerPc := 19, catchType := 13 } : ExceptionTableEntry) [] htab (fun z hz => by
      simp only [List.mem_cons, List.mem_nil_iff, or_false] at hz
      rcases hz with rfl
      · exact Or.inr ⟨by decide, "java/lang/IndexOutOfBoundsException", xs_kts C _ w_1013, C.2.2.2.2.2.2.2.2.2.1.2.2.1.2.1⟩) (by decide) (by decide) (xs_kts C _ w_768) (xs_bd3 (n := 1) C _ List.mem_cons_self) hq1 hq2 hq3 ?_
      refine lv_astore (lv' := [(5, .ref q), (0, .ref (xsA X 0)), (1, .int a0), (2, .int a1), (3, .int a2), (4, .ref (xsA X 131))]) hx hb dL_move_19 hl (by decide) rfl (fun ls hl => ?_)
      refine lv_iconst (v := 2) hx hb dL_move_21 (by decide) ?_
      exact xs_xiret C hr hlk (Or.inr ⟨_, _, e1, rfl, rfl⟩) hP hD hS (Nat.le_of_ble_eq_true rfl) (Nat.le_of_ble_eq_true rfl) dL_move_22
  · obtain ⟨tx, e1, e2, e3⟩ := hp
    subst e3
    subst e2
    refine lv_i2l hx hb dL_move_10 rfl ?_
    refine xs_lout C hP hD hS dL_move_11 (fun H locs hP hD hS => ?_)
    refine lv_goto (tgt := 23) hx hb dL_move_12 (by decide) ?_
    refine lv_iconst (v := 0) hx hb dL_move_23 (by decide) ?_
    exact xs_xiret C hr hlk (Or.inl ⟨_, e1, rfl, rfl⟩) hP hD hS (Nat.le_of_ble_eq_true rfl) (Nat.le_of_ble_eq_true rfl) dL_move_24
set_option maxRecDepth 100000 in
set_option maxHeartbeats 8000000 in
theorem mL_tint (l : Launch) (hst : l.stackTraces = false) {X : xsX} {kIsKept kIsStale hiLatest hiSize scLength scFault scAt scNumber piSegmentsNow enKind enFromX enFromY enToX enToY tiMeetingPairs tiAlongPairs tiSize evSize evCrossings evSegmentsNow grEdges grQueued huSize huBestX huBestY : Int32} {scBytes scTold tiTouching tiLyingAlong evBundle evCrossingOf evEventOf evLeftEvent evRightEvent grDegree grFar grQueue huX huY : Nat → Int32} {enX enY enLower : Int64} {evX evY evLower : Nat → Int64} {S : Nat → xsV} {Rw : va_W} {g0Lx g0Ly g0Rx g0Ry g0Ti : Nat → Int32} {g0Sz : Int32} (hs_0 : S 0 = (g0Lx, g0Ly, g0Rx, g0Ry, g0Ti, g0Sz)) {hist : Nat → xsV} (hs_H : ∀ i, S (4 + i) = hist i) {a0 : Int32} {a1 : Int32} {out : (Int32 × Int32 × Int32 × Int32 × (Nat → xsV) × (Nat → Int32)) ⊕ (Nat × (Int32 × Int32 × Int32 × (Nat → xsV) × (Nat → Int32)))} {ou : Nat → Int64} (hf : fX10_tint kIsStale hiLatest hiSize hist g0Lx g0Ly g0Rx g0Ry g0Ti g0Sz a0 a1 = some out) (hn : ∀ n tt, out = .inr (n, tt) → n = 3 ∨ n = 1) : vx_Met l yL_tint (Cond.codeWith yL_tint cL_tint 5 (some .int) [(0, 10, 13, 25), (0, 10, 17, 13)] :: xsGt) { frames := 9, cells := 2, slots := 12, locals := 155 } (xsP X (wK X kIsKept kIsStale hiLatest hiSize scBytes scTold scLength scFault scAt scNumber piSegmentsNow enKind enX enY enLower enFromX enFromY enToX enToY tiTouching tiLyingAlong tiMeetingPairs tiAlongPairs tiSize evX evY evLower evBundle evCrossingOf evEventOf evLeftEvent evRightEvent evSize evCrossings evSegmentsNow grDegree grEdges grFar grQueue grQueued huX huY huSize huBestX huBestY S (xsOc X ou :: Rw)) [.ref (xsA X 0), .int a0, .int a1, .ref (xsA X 131)]) (xsXi X (fun r u => (∃ tt, out = .inl tt ∧ r = 0 ∧ u = wK X kIsKept tt.2.1 tt.2.2.1 tt.2.2.2.1 scBytes scTold scLength scFault scAt scNumber piSegmentsNow enKind enX enY enLower enFromX enFromY enToX enToY tiTouching tiLyingAlong tiMeetingPairs tiAlongPairs tiSize evX evY evLower evBundle evCrossingOf evEventOf evLeftEvent evRightEvent evSize evCrossings evSegmentsNow grDegree grEdges grFar grQueue grQueued huX huY huSize huBestX huBestY (xsSu (xsHs S tt.2.2.2.2.1) 0 (g0Lx, g0Ly, g0Rx, g0Ry, tt.2.2.2.2.2, g0Sz)) (xsOc X (vp_updL ou 0 tt.1.toInt64) :: Rw)) ∨ (∃ n tt, out = .inr (n, tt) ∧ r = xsCd [(3, 1), (1, 2)] n ∧ u = wK X kIsKept tt.1 tt.2.1 tt.2.2.1 scBytes scTold scLength scFault scAt scNumber piSegmentsNow enKind enX enY enLower enFromX enFromY enToX enToY tiTouching tiLyingAlong tiMeetingPairs tiAlongPairs tiSize evX evY evLower evBundle evCrossingOf evEventOf evLeftEvent evRightEvent evSize evCrossings evSegmentsNow grDegree grEdges grFar grQueue grQueued huX huY huSize huBestX huBestY (xsSu (xsHs S tt.2.2.2.1) 0 (g0Lx, g0Ly, g0Rx, g0Ry, tt.2.2.2.2, g0Sz)) (xsOc X ou :: Rw)))) (fun _ _ _ => False) 2 12 (xsF X) := by
  refine xs_lmet RL (by decide) rfl (Nat.le_of_ble_eq_true rfl) ?_
  intro p e s m below meth c ls H locs C htab hP hD hS hr hlk hl
  have hx := C.1
  have hb := C.2.1
  have hl : lv_has ls 5 [(0, .ref (xsA X 0)), (1, .int a0), (2, .int a1), (3, .ref (xsA X 131))] := hl
  refine lv_aload_n hx hb dL_tint_0 rfl (lv_at hl 3 rfl) ?_
  refine lv_iconst (v := 0) hx hb dL_tint_1 (by decide) ?_
  refine lv_aload_n hx hb dL_tint_2 rfl (lv_at hl 0 rfl) ?_
  refine lv_iload_n hx hb dL_tint_3 rfl (lv_at hl 1 rfl) ?_
  refine lv_iload_n hx hb dL_tint_4 rfl (lv_at hl 2 rfl) ?_
  refine xs_xcalli hS (xs_xrunV (As := [.int a0, .int a1]) (rest := [.int 0, .ref (xsA X 131)]) C (mX10_tint l hst hs_0 hs_H hf) w_1055 w_1056 w_1057 w_105 w_1058 hd_X10_tint ⟨rfl, rfl, Nat.le_of_ble_eq_true rfl, Nat.le_of_ble_eq_true rfl, Nat.le_of_ble_eq_true rfl, Nat.le_of_ble_eq_true rfl⟩ hP hD hS lk_X10 rfl hl.1 rfl (Nat.le_of_ble_eq_true rfl) dL_tint_5) (fun n u q H locs hpx hP hD hS hq => ?_) (fun r u H locs hp hP hD hS => ?_)
  · obtain ⟨tx, e1, e2⟩ := hpx
    subst e2
    obtain ⟨ce, hq1, hq2, hq3⟩ := hq
    rcases hn n tx e1 with rfl | rfl
    · refine vx_catch (own := RL) (name := "java/lang/IndexOutOfBoundsException") (E := xsEx 3) C.2.2.2.1 [] ({ startPc := 0, endPc := 10, handlerPc := 13, catchType := 25 } : ExceptionTableEntry) [({ startPc := 0, endPc := 10, handlerPc := 17, catchType := 13 } : ExceptionTableEntry)] htab (fun z hz => absurd hz List.not_mem_nil) (by decide) (by decide) (xs_kts C _ w_1013) (xs_bd3 (n := 3) C _ List.mem_cons_self) hq1 hq2 hq3 ?_
      refine lv_astore (lv' := [(4, .ref q), (0, .ref (xsA X 0)), (1, .int a0), (2, .int a1), (3, .ref (xsA X 131))]) hx hb dL_tint_13 hl (by decide) rfl (fun ls hl => ?_)
      refine lv_iconst (v := 1) hx hb dL_tint_15 (by decide) ?_
      exact xs_xiret C hr hlk (Or.inr ⟨_, _, e1, rfl, rfl⟩) hP hD hS (Nat.le_of_ble_eq_true rfl) (Nat.le_of_ble_eq_true rfl) dL_tint_16
    · refine vx_catch (own := RL) (name := "java/lang/IllegalArgumentException") (E := xsEx 1) C.2.2.2.1 [({ startPc := 0, endPc := 10, handlerPc := 13, catchType := 25 } : ExceptionTableEntry)] ({ startPc := 0, endPc := 10, handlerPc := 17, catchType := 13 } : ExceptionTableEntry) [] htab (fun z hz => by
      simp only [List.mem_cons, List.mem_nil_iff, or_false] at hz
      rcases hz with rfl
      · exact Or.inr ⟨by decide, "java/lang/IndexOutOfBoundsException", xs_kts C _ w_1013, C.2.2.2.2.2.2.2.2.2.1.2.2.1.2.1⟩) (by decide) (by decide) (xs_kts C _ w_768) (xs_bd3 (n := 1) C _ List.mem_cons_self) hq1 hq2 hq3 ?_
      refine lv_astore (lv' := [(4, .ref q), (0, .ref (xsA X 0)), (1, .int a0), (2, .int a1), (3, .ref (xsA X 131))]) hx hb dL_tint_17 hl (by decide) rfl (fun ls hl => ?_)
      refine lv_iconst (v := 2) hx hb dL_tint_19 (by decide) ?_
      exact xs_xiret C hr hlk (Or.inr ⟨_, _, e1, rfl, rfl⟩) hP hD hS (Nat.le_of_ble_eq_true rfl) (Nat.le_of_ble_eq_true rfl) dL_tint_20
  · obtain ⟨tx, e1, e2, e3⟩ := hp
    subst e3
    subst e2
    refine lv_i2l hx hb dL_tint_8 rfl ?_
    refine xs_lout C hP hD hS dL_tint_9 (fun H locs hP hD hS => ?_)
    refine lv_goto (tgt := 21) hx hb dL_tint_10 (by decide) ?_
    refine lv_iconst (v := 0) hx hb dL_tint_21 (by decide) ?_
    exact xs_xiret C hr hlk (Or.inl ⟨_, e1, rfl, rfl⟩) hP hD hS (Nat.le_of_ble_eq_true rfl) (Nat.le_of_ble_eq_true rfl) dL_tint_22
set_option maxRecDepth 100000 in
set_option maxHeartbeats 8000000 in
theorem mL_undo (l : Launch) (hst : l.stackTraces = false) {X : xsX} {kIsKept kIsStale hiLatest hiSize scLength scFault scAt scNumber piSegmentsNow enKind enFromX enFromY enToX enToY tiMeetingPairs tiAlongPairs tiSize evSize evCrossings evSegmentsNow grEdges grQueued huSize huBestX huBestY : Int32} {scBytes scTold tiTouching tiLyingAlong evBundle evCrossingOf evEventOf evLeftEvent evRightEvent grDegree grFar grQueue huX huY : Nat → Int32} {enX enY enLower : Int64} {evX evY evLower : Nat → Int64} {S : Nat → xsV} {Rw : va_W} {g0Lx g0Ly g0Rx g0Ry g0Ti : Nat → Int32} {g0Sz : Int32} (hs_0 : S 0 = (g0Lx, g0Ly, g0Rx, g0Ry, g0Ti, g0Sz)) {hist : Nat → xsV} (hs_H : ∀ i, S (4 + i) = hist i) {out : (Int32 × Int32 × Int32 × Int32 × (Nat → Int32) × (Nat → Int32) × (Nat → Int32) × (Nat → Int32) × (Nat → Int32) × Int32) ⊕ (Nat × (Int32 × Int32 × Int32 × (Nat → Int32) × (Nat → Int32) × (Nat → Int32) × (Nat → Int32) × (Nat → Int32) × Int32))} {ou : Nat → Int64} (hf : fX10_undo kIsStale hiLatest hiSize hist g0Lx g0Ly g0Rx g0Ry g0Ti g0Sz = some out) (hn : ∀ n tt, out = .inr (n, tt) → n = 2) : vx_Met l yL_undo (Cond.codeWith yL_undo cL_undo 3 (some .int) [(0, 8, 11, 19)] :: xsGt) { frames := 7, cells := 1, slots := 6, locals := 110 } (xsP X (wK X kIsKept kIsStale hiLatest hiSize scBytes scTold scLength scFault scAt scNumber piSegmentsNow enKind enX enY enLower enFromX enFromY enToX enToY tiTouching tiLyingAlong tiMeetingPairs tiAlongPairs tiSize evX evY evLower evBundle evCrossingOf evEventOf evLeftEvent evRightEvent evSize evCrossings evSegmentsNow grDegree grEdges grFar grQueue grQueued huX huY huSize huBestX huBestY S (xsOc X ou :: Rw)) [.ref (xsA X 0), .ref (xsA X 131)]) (xsXi X (fun r u => (∃ tt, out = .inl tt ∧ r = 0 ∧ u = wK X kIsKept tt.2.1 tt.2.2.1 tt.2.2.2.1 scBytes scTold scLength scFault scAt scNumber piSegmentsNow enKind enX enY enLower enFromX enFromY enToX enToY tiTouching tiLyingAlong tiMeetingPairs tiAlongPairs tiSize evX evY evLower evBundle evCrossingOf evEventOf evLeftEvent evRightEvent evSize evCrossings evSegmentsNow grDegree grEdges grFar grQueue grQueued huX huY huSize huBestX huBestY (xsSu S 0 (tt.2.2.2.2.1, tt.2.2.2.2.2.1, tt.2.2.2.2.2.2.1, tt.2.2.2.2.2.2.2.1, tt.2.2.2.2.2.2.2.2.1, tt.2.2.2.2.2.2.2.2.2)) (xsOc X (vp_updL ou 0 tt.1.toInt64) :: Rw)) ∨ (∃ n tt, out = .inr (n, tt) ∧ r = xsCd [(2, 1)] n ∧ u = wK X kIsKept tt.1 tt.2.1 tt.2.2.1 scBytes scTold scLength scFault scAt scNumber piSegmentsNow enKind enX enY enLower enFromX enFromY enToX enToY tiTouching tiLyingAlong tiMeetingPairs tiAlongPairs tiSize evX evY evLower evBundle evCrossingOf evEventOf evLeftEvent evRightEvent evSize evCrossings evSegmentsNow grDegree grEdges grFar grQueue grQueued huX huY huSize huBestX huBestY (xsSu S 0 (tt.2.2.2.1, tt.2.2.2.2.1, tt.2.2.2.2.2.1, tt.2.2.2.2.2.2.1, tt.2.2.2.2.2.2.2.1, tt.2.2.2.2.2.2.2.2)) (xsOc X ou :: Rw)))) (fun _ _ _ => False) 1 6 (xsF X) := by
  refine xs_lmet RL (by decide) rfl (Nat.le_of_ble_eq_true rfl) ?_
  intro p e s m below meth c ls H locs C htab hP hD hS hr hlk hl
  have hx := C.1
  have hb := C.2.1
  have hl : lv_has ls 3 [(0, .ref (xsA X 0)), (1, .ref (xsA X 131))] := hl
  refine lv_aload_n hx hb dL_undo_0 rfl (lv_at hl 1 rfl) ?_
  refine lv_iconst (v := 0) hx hb dL_undo_1 (by decide) ?_
  refine lv_aload_n hx hb dL_undo_2 rfl (lv_at hl 0 rfl) ?_
  refine xs_xcalli hS (xs_xrunV (As := []) (rest := [.int 0, .ref (xsA X 131)]) C (mX10_undo l hst hs_0 hs_H hf) w_1062 w_1063 w_1064 w_105 w_1065 hd_X10_undo ⟨rfl, rfl, Nat.le_of_ble_eq_true rfl, Nat.le_of_ble_eq_true rfl, Nat.le_of_ble_eq_true rfl, Nat.le_of_ble_eq_true rfl⟩ hP hD hS lk_X10 rfl hl.1 rfl (Nat.le_of_ble_eq_true rfl) dL_undo_3) (fun n u q H locs hpx hP hD hS hq => ?_) (fun r u H locs hp hP hD hS => ?_)
  · obtain ⟨tx, e1, e2⟩ := hpx
    subst e2
    obtain ⟨ce, hq1, hq2, hq3⟩ := hq
    have en := hn n tx e1
    subst en
    refine vx_catch (own := RL) (name := "java/lang/IllegalStateException") (E := xsEx 2) C.2.2.2.1 [] ({ startPc := 0, endPc := 8, handlerPc := 11, catchType := 19 } : ExceptionTableEntry) [] htab (fun z hz => absurd hz List.not_mem_nil) (by decide) (by decide) (xs_kts C _ w_978) (xs_bd3 (n := 2) C _ List.mem_cons_self) hq1 hq2 hq3 ?_
    refine lv_astore_n (lv' := [(2, .ref q), (0, .ref (xsA X 0)), (1, .ref (xsA X 131))]) hx hb dL_undo_11 rfl hl (by decide) rfl (fun ls hl => ?_)
    refine lv_iconst (v := 1) hx hb dL_undo_12 (by decide) ?_
    exact xs_xiret C hr hlk (Or.inr ⟨_, _, e1, rfl, rfl⟩) hP hD hS (Nat.le_of_ble_eq_true rfl) (Nat.le_of_ble_eq_true rfl) dL_undo_13
  · obtain ⟨tx, e1, e2, e3⟩ := hp
    subst e3
    subst e2
    refine lv_i2l hx hb dL_undo_6 rfl ?_
    refine xs_lout C hP hD hS dL_undo_7 (fun H locs hP hD hS => ?_)
    refine lv_goto (tgt := 14) hx hb dL_undo_8 (by decide) ?_
    refine lv_iconst (v := 0) hx hb dL_undo_14 (by decide) ?_
    exact xs_xiret C hr hlk (Or.inl ⟨_, e1, rfl, rfl⟩) hP hD hS (Nat.le_of_ble_eq_true rfl) (Nat.le_of_ble_eq_true rfl) dL_undo_15
set_option maxRecDepth 100000 in
set_option maxHeartbeats 8000000 in
theorem mL_segment (l : Launch) (hst : l.stackTraces = false) {X : xsX} {kIsKept kIsStale hiLatest hiSize scLength scFault scAt scNumber piSegmentsNow enKind enFromX enFromY enToX enToY tiMeetingPairs tiAlongPairs tiSize evSize evCrossings evSegmentsNow grEdges grQueued huSize huBestX huBestY : Int32} {scBytes scTold tiTouching tiLyingAlong evBundle evCrossingOf evEventOf evLeftEvent evRightEvent grDegree grFar grQueue huX huY : Nat → Int32} {enX enY enLower : Int64} {evX evY evLower : Nat → Int64} {S : Nat → xsV} {Rw : va_W} {g0Lx g0Ly g0Rx g0Ry g0Ti : Nat → Int32} {g0Sz : Int32} (hs_0 : S 0 = (g0Lx, g0Ly, g0Rx, g0Ry, g0Ti, g0Sz)) {a0 : Int32} {a1 : Int32} {out : (Int32 × Int32 × Int32 × Int32 × Int64 × Int64 × Int64 × Int32 × Int32 × Int32 × Int32 × (Nat → Int32) × (Nat → Int32) × Int32 × Int32 × Int32 × (Nat → Int64) × (Nat → Int64) × (Nat → Int64) × (Nat → Int32) × (Nat → Int32) × (Nat → Int32) × (Nat → Int32) × (Nat → Int32) × Int32 × Int32 × Int32 × (Nat → Int32) × Int32) ⊕ (Nat × (Int32 × Int32 × Int32 × Int64 × Int64 × Int64 × Int32 × Int32 × Int32 × Int32 × (Nat → Int32) × (Nat → Int32) × Int32 × Int32 × Int32 × (Nat → Int64) × (Nat → Int64) × (Nat → Int64) × (Nat → Int32) × (Nat → Int32) × (Nat → Int32) × (Nat → Int32) × (Nat → Int32) × Int32 × Int32 × Int32 × (Nat → Int32) × Int32))} {ou : Nat → Int64} (hf : fX10_segment kIsStale piSegmentsNow enKind enX enY enLower enFromX enFromY enToX enToY tiTouching tiLyingAlong tiMeetingPairs tiAlongPairs tiSize evX evY evLower evBundle evCrossingOf evEventOf evLeftEvent evRightEvent evSize evCrossings evSegmentsNow grDegree grEdges g0Lx g0Ly g0Rx g0Ry g0Ti g0Sz a0 a1 = some out) (hn : ∀ n tt, out = .inr (n, tt) → n = 3 ∨ n = 4) : vx_Met l yL_segment (Cond.codeWith yL_segment cL_segment 5 (some .int) [(0, 10, 13, 25), (0, 10, 17, 41)] :: xsGt) { frames := 9, cells := 2, slots := 12, locals := 175 } (xsP X (wK X kIsKept kIsStale hiLatest hiSize scBytes scTold scLength scFault scAt scNumber piSegmentsNow enKind enX enY enLower enFromX enFromY enToX enToY tiTouching tiLyingAlong tiMeetingPairs tiAlongPairs tiSize evX evY evLower evBundle evCrossingOf evEventOf evLeftEvent evRightEvent evSize evCrossings evSegmentsNow grDegree grEdges grFar grQueue grQueued huX huY huSize huBestX huBestY S (xsOc X ou :: Rw)) [.ref (xsA X 0), .int a0, .int a1, .ref (xsA X 131)]) (xsXi X (fun r u => (∃ tt, out = .inl tt ∧ r = 0 ∧ u = wK X kIsKept tt.2.1 hiLatest hiSize scBytes scTold scLength scFault scAt scNumber tt.2.2.1 tt.2.2.2.1 tt.2.2.2.2.1 tt.2.2.2.2.2.1 tt.2.2.2.2.2.2.1 tt.2.2.2.2.2.2.2.1 tt.2.2.2.2.2.2.2.2.1 tt.2.2.2.2.2.2.2.2.2.1 tt.2.2.2.2.2.2.2.2.2.2.1 tt.2.2.2.2.2.2.2.2.2.2.2.1 tt.2.2.2.2.2.2.2.2.2.2.2.2.1 tt.2.2.2.2.2.2.2.2.2.2.2.2.2.1 tt.2.2.2.2.2.2.2.2.2.2.2.2.2.2.1 tt.2.2.2.2.2.2.2.2.2.2.2.2.2.2.2.1 tt.2.2.2.2.2.2.2.2.2.2.2.2.2.2.2.2.1 tt.2.2.2.2.2.2.2.2.2.2.2.2.2.2.2.2.2.1 tt.2.2.2.2.2.2.2.2.2.2.2.2.2.2.2.2.2.2.1 tt.2.2.2.2.2.2.2.2.2.2.2.2.2.2.2.2.2.2.2.1 tt.2.2.2.2.2.2.2.2.2.2.2.2.2.2.2.2.2.2.2.2.1 tt.2.2.2.2.2.2.2.2.2.2.2.2.2.2.2.2.2.2.2.2.2.1 tt.2.2.2.2.2.2.2.2.2.2.2.2.2.2.2.2.2.2.2.2.2.2.1 tt.2.2.2.2.2.2.2.2.2.2.2.2.2.2.2.2.2.2.2.2.2.2.2.1 tt.2.2.2.2.2.2.2.2.2.2.2.2.2.2.2.2.2.2.2.2.2.2.2.2.1 tt.2.2.2.2.2.2.2.2.2.2.2.2.2.2.2.2.2.2.2.2.2.2.2.2.2.1 tt.2.2.2.2.2.2.2.2.2.2.2.2.2.2.2.2.2.2.2.2.2.2.2.2.2.2.1 tt.2.2.2.2.2.2.2.2.2.2.2.2.2.2.2.2.2.2.2.2.2.2.2.2.2.2.2.1 tt.2.2.2.2.2.2.2.2.2.2.2.2.2.2.2.2.2.2.2.2.2.2.2.2.2.2.2.2 grFar grQueue grQueued huX huY huSize huBestX huBestY S (xsOc X (vp_updL ou 0 tt.1.toInt64) :: Rw)) ∨ (∃ n tt, out = .inr (n, tt) ∧ r = xsCd [(3, 1), (4, 2)] n ∧ u = wK X kIsKept tt.1 hiLatest hiSize scBytes scTold scLength scFault scAt scNumber tt.2.1 tt.2.2.1 tt.2.2.2.1 tt.2.2.2.2.1 tt.2.2.2.2.2.1 tt.2.2.2.2.2.2.1 tt.2.2.2.2.2.2.2.1 tt.2.2.2.2.2.2.2.2.1 tt.2.2.2.2.2.2.2.2.2.1 tt.2.2.2.2.2.2.2.2.2.2.1 tt.2.2.2.2.2.2.2.2.2.2.2.1 tt.2.2.2.2.2.2.2.2.2.2.2.2.1 tt.2.2.2.2.2.2.2.2.2.2.2.2.2.1 tt.2.2.2.2.2.2.2.2.2.2.2.2.2.2.1 tt.2.2.2.2.2.2.2.2.2.2.2.2.2.2.2.1 tt.2.2.2.2.2.2.2.2.2.2.2.2.2.2.2.2.1 tt.2.2.2.2.2.2.2.2.2.2.2.2.2.2.2.2.2.1 tt.2.2.2.2.2.2.2.2.2.2.2.2.2.2.2.2.2.2.1 tt.2.2.2.2.2.2.2.2.2.2.2.2.2.2.2.2.2.2.2.1 tt.2.2.2.2.2.2.2.2.2.2.2.2.2.2.2.2.2.2.2.2.1 tt.2.2.2.2.2.2.2.2.2.2.2.2.2.2.2.2.2.2.2.2.2.1 tt.2.2.2.2.2.2.2.2.2.2.2.2.2.2.2.2.2.2.2.2.2.2.1 tt.2.2.2.2.2.2.2.2.2.2.2.2.2.2.2.2.2.2.2.2.2.2.2.1 tt.2.2.2.2.2.2.2.2.2.2.2.2.2.2.2.2.2.2.2.2.2.2.2.2.1 tt.2.2.2.2.2.2.2.2.2.2.2.2.2.2.2.2.2.2.2.2.2.2.2.2.2.1 tt.2.2.2.2.2.2.2.2.2.2.2.2.2.2.2.2.2.2.2.2.2.2.2.2.2.2.1 tt.2.2.2.2.2.2.2.2.2.2.2.2.2.2.2.2.2.2.2.2.2.2.2.2.2.2.2 grFar grQueue grQueued huX huY huSize huBestX huBestY S (xsOc X ou :: Rw)))) (fun _ _ _ => False) 2 12 (xsF X) := by
  refine xs_lmet RL (by decide) rfl (Nat.le_of_ble_eq_true rfl) ?_
  intro p e s m below meth c ls H locs C htab hP hD hS hr hlk hl
  have hx := C.1
  have hb := C.2.1
  have hl : lv_has ls 5 [(0, .ref (xsA X 0)), (1, .int a0), (2, .int a1), (3, .ref (xsA X 131))] := hl
  refine lv_aload_n hx hb dL_segment_0 rfl (lv_at hl 3 rfl) ?_
  refine lv_iconst (v := 0) hx hb dL_segment_1 (by decide) ?_
  refine lv_aload_n hx hb dL_segment_2 rfl (lv_at hl 0 rfl) ?_
  refine lv_iload_n hx hb dL_segment_3 rfl (lv_at hl 1 rfl) ?_
  refine lv_iload_n hx hb dL_segment_4 rfl (lv_at hl 2 rfl) ?_
  refine xs_xcalli hS (xs_xrunV (As := [.int a0, .int a1]) (rest := [.int 0, .ref (xsA X 131)]) C (mX10_segment l hst hs_0 hf) w_1075 w_1076 w_1077 w_105 w_1078 hd_X10_segment ⟨rfl, rfl, Nat.le_of_ble_eq_true rfl, Nat.le_of_ble_eq_true rfl, Nat.le_of_ble_eq_true rfl, Nat.le_of_ble_eq_true rfl⟩ hP hD hS lk_X10 rfl hl.1 rfl (Nat.le_of_ble_eq_true rfl) dL_segment_5) (fun n u q H locs hpx hP hD hS hq => ?_) (fun r u H locs hp hP hD hS => ?_)
  · obtain ⟨tx, e1, e2⟩ := hpx
    subst e2
    obtain ⟨ce, hq1, hq2, hq3⟩ := hq
    rcases hn n tx e1 with rfl | rfl
    · refine vx_catch (own := RL) (name := "java/lang/IndexOutOfBoundsException") (E := xsEx 3) C.2.2.2.1 [] ({ startPc := 0, endPc := 10, handlerPc := 13, catchType := 25 } : ExceptionTableEntry) [({ startPc := 0, endPc := 10, handlerPc := 17, catchType := 41 } : ExceptionTableEntry)] htab (fun z hz => absurd hz List.not_mem_nil) (by decide) (by decide) (xs_kts C _ w_1013) (xs_bd3 (n := 3) C _ List.mem_cons_self) hq1 hq2 hq3 ?_
      refine lv_astore (lv' := [(4, .ref q), (0, .ref (xsA X 0)), (1, .int a0), (2, .int a1), (3, .ref (xsA X 131))]) hx hb dL_segment_13 hl (by decide) rfl (fun ls hl => ?_)
      refine lv_iconst (v := 1) hx hb dL_segment_15 (by decide) ?_
      exact xs_xiret C hr hlk (Or.inr ⟨_, _, e1, rfl, rfl⟩) hP hD hS (Nat.le_of_ble_eq_true rfl) (Nat.le_of_ble_eq_true rfl) dL_segment_16
    · refine vx_catch (own := RL) (name := "java/util/NoSuchElementException") (E := xsEx 4) C.2.2.2.1 [({ startPc := 0, endPc := 10, handlerPc := 13, catchType := 25 } : ExceptionTableEntry)] ({ startPc := 0, endPc := 10, handlerPc := 17, catchType := 41 } : ExceptionTableEntry) [] htab (fun z hz => by
      simp only [List.mem_cons, List.mem_nil_iff, or_false] at hz
      rcases hz with rfl
      · exact Or.inr ⟨by decide, "java/lang/IndexOutOfBoundsException", xs_kts C _ w_1013, C.2.2.2.2.2.2.2.2.2.1.2.2.1.2.2.2.2.2.2.2.2.2.2.2⟩) (by decide) (by decide) (xs_kts C _ w_1074) (xs_bd3 (n := 4) C _ List.mem_cons_self) hq1 hq2 hq3 ?_
      refine lv_astore (lv' := [(4, .ref q), (0, .ref (xsA X 0)), (1, .int a0), (2, .int a1), (3, .ref (xsA X 131))]) hx hb dL_segment_17 hl (by decide) rfl (fun ls hl => ?_)
      refine lv_iconst (v := 2) hx hb dL_segment_19 (by decide) ?_
      exact xs_xiret C hr hlk (Or.inr ⟨_, _, e1, rfl, rfl⟩) hP hD hS (Nat.le_of_ble_eq_true rfl) (Nat.le_of_ble_eq_true rfl) dL_segment_20
  · obtain ⟨tx, e1, e2, e3⟩ := hp
    subst e3
    subst e2
    refine lv_i2l hx hb dL_segment_8 rfl ?_
    refine xs_lout C hP hD hS dL_segment_9 (fun H locs hP hD hS => ?_)
    refine lv_goto (tgt := 21) hx hb dL_segment_10 (by decide) ?_
    refine lv_iconst (v := 0) hx hb dL_segment_21 (by decide) ?_
    exact xs_xiret C hr hlk (Or.inl ⟨_, e1, rfl, rfl⟩) hP hD hS (Nat.le_of_ble_eq_true rfl) (Nat.le_of_ble_eq_true rfl) dL_segment_22
set_option maxRecDepth 100000 in
set_option maxHeartbeats 8000000 in
theorem mL_how (l : Launch) (hst : l.stackTraces = false) {X : xsX} {kIsKept kIsStale hiLatest hiSize scLength scFault scAt scNumber piSegmentsNow enKind enFromX enFromY enToX enToY tiMeetingPairs tiAlongPairs tiSize evSize evCrossings evSegmentsNow grEdges grQueued huSize huBestX huBestY : Int32} {scBytes scTold tiTouching tiLyingAlong evBundle evCrossingOf evEventOf evLeftEvent evRightEvent grDegree grFar grQueue huX huY : Nat → Int32} {enX enY enLower : Int64} {evX evY evLower : Nat → Int64} {S : Nat → xsV} {Rw : va_W} {g0Lx g0Ly g0Rx g0Ry g0Ti : Nat → Int32} {g0Sz : Int32} (hs_0 : S 0 = (g0Lx, g0Ly, g0Rx, g0Ry, g0Ti, g0Sz)) {a0 : Int32} {a1 : Int32} {out : (Int32 × Int32 × Int64 × Int64 × Int64 × Int32 × Int32 × Int32 × Int32) ⊕ (Nat × (Int32 × Int64 × Int64 × Int64 × Int32 × Int32 × Int32 × Int32))} {ou : Nat → Int64} (hf : fX10_how enKind enX enY enLower enFromX enFromY enToX enToY g0Lx g0Ly g0Rx g0Ry g0Sz a0 a1 = some out) (hn : ∀ n tt, out = .inr (n, tt) → n = 3 ∨ n = 1) : vx_Met l yL_how (Cond.codeWith yL_how cL_how 5 (some .int) [(0, 10, 13, 25), (0, 10, 17, 13)] :: xsGt) { frames := 9, cells := 3, slots := 18, locals := 155 } (xsP X (wK X kIsKept kIsStale hiLatest hiSize scBytes scTold scLength scFault scAt scNumber piSegmentsNow enKind enX enY enLower enFromX enFromY enToX enToY tiTouching tiLyingAlong tiMeetingPairs tiAlongPairs tiSize evX evY evLower evBundle evCrossingOf evEventOf evLeftEvent evRightEvent evSize evCrossings evSegmentsNow grDegree grEdges grFar grQueue grQueued huX huY huSize huBestX huBestY S (xsOc X ou :: Rw)) [.ref (xsA X 0), .int a0, .int a1, .ref (xsA X 131)]) (xsXi X (fun r u => (∃ tt, out = .inl tt ∧ r = 0 ∧ u = wK X kIsKept kIsStale hiLatest hiSize scBytes scTold scLength scFault scAt scNumber piSegmentsNow tt.2.1 tt.2.2.1 tt.2.2.2.1 tt.2.2.2.2.1 tt.2.2.2.2.2.1 tt.2.2.2.2.2.2.1 tt.2.2.2.2.2.2.2.1 tt.2.2.2.2.2.2.2.2 tiTouching tiLyingAlong tiMeetingPairs tiAlongPairs tiSize evX evY evLower evBundle evCrossingOf evEventOf evLeftEvent evRightEvent evSize evCrossings evSegmentsNow grDegree grEdges grFar grQueue grQueued huX huY huSize huBestX huBestY S (xsOc X (vp_updL ou 0 tt.1.toInt64) :: Rw)) ∨ (∃ n tt, out = .inr (n, tt) ∧ r = xsCd [(3, 1), (1, 2)] n ∧ u = wK X kIsKept kIsStale hiLatest hiSize scBytes scTold scLength scFault scAt scNumber piSegmentsNow tt.1 tt.2.1 tt.2.2.1 tt.2.2.2.1 tt.2.2.2.2.1 tt.2.2.2.2.2.1 tt.2.2.2.2.2.2.1 tt.2.2.2.2.2.2.2 tiTouching tiLyingAlong tiMeetingPairs tiAlongPairs tiSize evX evY evLower evBundle evCrossingOf evEventOf evLeftEvent evRightEvent evSize evCrossings evSegmentsNow grDegree grEdges grFar grQueue grQueued huX huY huSize huBestX huBestY S (xsOc X ou :: Rw)))) (fun _ _ _ => False) 3 18 (xsF X) := by
  refine xs_lmet RL (by decide) rfl (Nat.le_of_ble_eq_true rfl) ?_
  intro p e s m below meth c ls H locs C htab hP hD hS hr hlk hl
  have hx := C.1
  have hb := C.2.1
  have hl : lv_has ls 5 [(0, .ref (xsA X 0)), (1, .int a0), (2, .int a1), (3, .ref (xsA X 131))] := hl
  refine lv_aload_n hx hb dL_how_0 rfl (lv_at hl 3 rfl) ?_
  refine lv_iconst (v := 0) hx hb dL_how_1 (by decide) ?_
  refine lv_aload_n hx hb dL_how_2 rfl (lv_at hl 0 rfl) ?_
  refine lv_iload_n hx hb dL_how_3 rfl (lv_at hl 1 rfl) ?_
  refine lv_iload_n hx hb dL_how_4 rfl (lv_at hl 2 rfl) ?_
  refine xs_xcalli hS (xs_xrunV (As := [.int a0, .int a1]) (rest := [.int 0, .ref (xsA X 131)]) C (mX10_how l hst hs_0 hf) w_1114 w_1115 w_1116 w_105 w_1117 hd_X10_how ⟨rfl, rfl, Nat.le_of_ble_eq_true rfl, Nat.le_of_ble_eq_true rfl, Nat.le_of_ble_eq_true rfl, Nat.le_of_ble_eq_true rfl⟩ hP hD hS lk_X10 rfl hl.1 rfl (Nat.le_of_ble_eq_true rfl) dL_how_5) (fun n u q H locs hpx hP hD hS hq => ?_) (fun r u H locs hp hP hD hS => ?_)
  · obtain ⟨tx, e1, e2⟩ := hpx
    subst e2
    obtain ⟨ce, hq1, hq2, hq3⟩ := hq
    rcases hn n tx e1 with rfl | rfl
    · refine vx_catch (own := RL) (name := "java/lang/IndexOutOfBoundsException") (E := xsEx 3) C.2.2.2.1 [] ({ startPc := 0, endPc := 10, handlerPc := 13, catchType := 25 } : ExceptionTableEntry) [({ startPc := 0, endPc := 10, handlerPc := 17, catchType := 13 } : ExceptionTableEntry)] htab (fun z hz => absurd hz List.not_mem_nil) (by decide) (by decide) (xs_kts C _ w_1013) (xs_bd3 (n := 3) C _ List.mem_cons_self) hq1 hq2 hq3 ?_
      refine lv_astore (lv' := [(4, .ref q), (0, .ref (xsA X 0)), (1, .int a0), (2, .int a1), (3, .ref (xsA X 131))]) hx hb dL_how_13 hl (by decide) rfl (fun ls hl => ?_)
      refine lv_iconst (v := 1) hx hb dL_how_15 (by decide) ?_
      exact xs_xiret C hr hlk (Or.inr ⟨_, _, e1, rfl, rfl⟩) hP hD hS (Nat.le_of_ble_eq_true rfl) (Nat.le_of_ble_eq_true rfl) dL_how_16
    · refine vx_catch (own := RL) (name := "java/lang/IllegalArgumentException") (E := xsEx 1) C.2.2.2.1 [({ startPc := 0, endPc := 10, handlerPc := 13, catchType := 25 } : ExceptionTableEntry)] ({ startPc := 0, endPc := 10, handlerPc := 17, catchType := 13 } : ExceptionTableEntry) [] htab (fun z hz => by
      simp only [List.mem_cons, List.mem_nil_iff, or_false] at hz
      rcases hz with rfl
      · exact Or.inr ⟨by decide, "java/lang/IndexOutOfBoundsException", xs_kts C _ w_1013, C.2.2.2.2.2.2.2.2.2.1.2.2.1.2.1⟩) (by decide) (by decide) (xs_kts C _ w_768) (xs_bd3 (n := 1) C _ List.mem_cons_self) hq1 hq2 hq3 ?_
      refine lv_astore (lv' := [(4, .ref q), (0, .ref (xsA X 0)), (1, .int a0), (2, .int a1), (3, .ref (xsA X 131))]) hx hb dL_how_17 hl (by decide) rfl (fun ls hl => ?_)
      refine lv_iconst (v := 2) hx hb dL_how_19 (by decide) ?_
      exact xs_xiret C hr hlk (Or.inr ⟨_, _, e1, rfl, rfl⟩) hP hD hS (Nat.le_of_ble_eq_true rfl) (Nat.le_of_ble_eq_true rfl) dL_how_20
  · obtain ⟨tx, e1, e2, e3⟩ := hp
    subst e3
    subst e2
    refine lv_i2l hx hb dL_how_8 rfl ?_
    refine xs_lout C hP hD hS dL_how_9 (fun H locs hP hD hS => ?_)
    refine lv_goto (tgt := 21) hx hb dL_how_10 (by decide) ?_
    refine lv_iconst (v := 0) hx hb dL_how_21 (by decide) ?_
    exact xs_xiret C hr hlk (Or.inl ⟨_, e1, rfl, rfl⟩) hP hD hS (Nat.le_of_ble_eq_true rfl) (Nat.le_of_ble_eq_true rfl) dL_how_22
set_option maxRecDepth 100000 in
set_option maxHeartbeats 8000000 in
theorem mL_meet (l : Launch) (hst : l.stackTraces = false) {X : xsX} {kIsKept kIsStale hiLatest hiSize scLength scFault scAt scNumber piSegmentsNow enKind enFromX enFromY enToX enToY tiMeetingPairs tiAlongPairs tiSize evSize evCrossings evSegmentsNow grEdges grQueued huSize huBestX huBestY : Int32} {scBytes scTold tiTouching tiLyingAlong evBundle evCrossingOf evEventOf evLeftEvent evRightEvent grDegree grFar grQueue huX huY : Nat → Int32} {enX enY enLower : Int64} {evX evY evLower : Nat → Int64} {S : Nat → xsV} {Rw : va_W} {g0Lx g0Ly g0Rx g0Ry g0Ti : Nat → Int32} {g0Sz : Int32} (hs_0 : S 0 = (g0Lx, g0Ly, g0Rx, g0Ry, g0Ti, g0Sz)) {a0 : Int32} {a1 : Int32} {a2 : Int32} {out : (Int64 × Int32 × Int64 × Int64 × Int64 × Int32 × Int32 × Int32 × Int32) ⊕ (Nat × (Int32 × Int64 × Int64 × Int64 × Int32 × Int32 × Int32 × Int32))} {ou : Nat → Int64} (hf : fX10_meet enKind enX enY enLower enFromX enFromY enToX enToY g0Lx g0Ly g0Rx g0Ry g0Sz a0 a1 a2 = some out) (hn : ∀ n tt, out = .inr (n, tt) → n = 3 ∨ n = 4 ∨ n = 1 ∨ n = 2) : vx_Met l yL_meet (Cond.codeWith yL_meet cL_meet 6 (some .int) [(0, 11, 14, 25), (0, 11, 18, 41), (0, 11, 22, 13), (0, 11, 26, 19)] :: xsGt) { frames := 9, cells := 5, slots := 30, locals := 156 } (xsP X (wK X kIsKept kIsStale hiLatest hiSize scBytes scTold scLength scFault scAt scNumber piSegmentsNow enKind enX enY enLower enFromX enFromY enToX enToY tiTouching tiLyingAlong tiMeetingPairs tiAlongPairs tiSize evX evY evLower evBundle evCrossingOf evEventOf evLeftEvent evRightEvent evSize evCrossings evSegmentsNow grDegree grEdges grFar grQueue grQueued huX huY huSize huBestX huBestY S (xsOc X ou :: Rw)) [.ref (xsA X 0), .int a0, .int a1, .int a2, .ref (xsA X 131)]) (xsXi X (fun r u => (∃ tt, out = .inl tt ∧ r = 0 ∧ u = wK X kIsKept kIsStale hiLatest hiSize scBytes scTold scLength scFault scAt scNumber piSegmentsNow tt.2.1 tt.2.2.1 tt.2.2.2.1 tt.2.2.2.2.1 tt.2.2.2.2.2.1 tt.2.2.2.2.2.2.1 tt.2.2.2.2.2.2.2.1 tt.2.2.2.2.2.2.2.2 tiTouching tiLyingAlong tiMeetingPairs tiAlongPairs tiSize evX evY evLower evBundle evCrossingOf evEventOf evLeftEvent evRightEvent evSize evCrossings evSegmentsNow grDegree grEdges grFar grQueue grQueued huX huY huSize huBestX huBestY S (xsOc X (vp_updL ou 0 tt.1) :: Rw)) ∨ (∃ n tt, out = .inr (n, tt) ∧ r = xsCd [(3, 1), (4, 2), (1, 3), (2, 4)] n ∧ u = wK X kIsKept kIsStale hiLatest hiSize scBytes scTold scLength scFault scAt scNumber piSegmentsNow tt.1 tt.2.1 tt.2.2.1 tt.2.2.2.1 tt.2.2.2.2.1 tt.2.2.2.2.2.1 tt.2.2.2.2.2.2.1 tt.2.2.2.2.2.2.2 tiTouching tiLyingAlong tiMeetingPairs tiAlongPairs tiSize evX evY evLower evBundle evCrossingOf evEventOf evLeftEvent evRightEvent evSize evCrossings evSegmentsNow grDegree grEdges grFar grQueue grQueued huX huY huSize huBestX huBestY S (xsOc X ou :: Rw)))) (fun _ _ _ => False) 5 30 (xsF X) := by
  refine xs_lmet RL (by decide) rfl (Nat.le_of_ble_eq_true rfl) ?_
  intro p e s m below meth c ls H locs C htab hP hD hS hr hlk hl
  have hx := C.1
  have hb := C.2.1
  have hl : lv_has ls 6 [(0, .ref (xsA X 0)), (1, .int a0), (2, .int a1), (3, .int a2), (4, .ref (xsA X 131))] := hl
  refine lv_aload hx hb dL_meet_0 (lv_at hl 4 rfl) ?_
  refine lv_iconst (v := 0) hx hb dL_meet_2 (by decide) ?_
  refine lv_aload_n hx hb dL_meet_3 rfl (lv_at hl 0 rfl) ?_
  refine lv_iload_n hx hb dL_meet_4 rfl (lv_at hl 1 rfl) ?_
  refine lv_iload_n hx hb dL_meet_5 rfl (lv_at hl 2 rfl) ?_
  refine lv_iload_n hx hb dL_meet_6 rfl (lv_at hl 3 rfl) ?_
  refine xs_xcalll hS (xs_xrunV (As := [.int a0, .int a1, .int a2]) (rest := [.int 0, .ref (xsA X 131)]) C (mX10_meet l hst hs_0 hf) w_1138 w_1139 w_1140 w_105 w_1141 hd_X10_meet ⟨rfl, rfl, Nat.le_of_ble_eq_true rfl, Nat.le_of_ble_eq_true rfl, Nat.le_of_ble_eq_true rfl, Nat.le_of_ble_eq_true rfl⟩ hP hD hS lk_X10 rfl hl.1 rfl (Nat.le_of_ble_eq_true rfl) dL_meet_7) (fun n u q H locs hpx hP hD hS hq => ?_) (fun r u H locs hp hP hD hS => ?_)
  · obtain ⟨tx, e1, e2⟩ := hpx
    subst e2
    obtain ⟨ce, hq1, hq2, hq3⟩ := hq
    rcases hn n tx e1 with rfl | rfl | rfl | rfl
    · refine vx_catch (own := RL) (name := "java/lang/IndexOutOfBoundsException") (E := xsEx 3) C.2.2.2.1 [] ({ startPc := 0, endPc := 11, handlerPc := 14, catchType := 25 } : ExceptionTableEntry) [({ startPc := 0, endPc := 11, handlerPc := 18, catchType := 41 } : ExceptionTableEntry), ({ startPc := 0, endPc := 11, handlerPc := 22, catchType := 13 } : ExceptionTableEntry), ({ startPc := 0, endPc := 11, handlerPc := 26, catchType := 19 } : ExceptionTableEntry)] htab (fun z hz => absurd hz List.not_mem_nil) (by decide) (by decide) (xs_kts C _ w_1013) (xs_bd3 (n := 3) C _ List.mem_cons_self) hq1 hq2 hq3 ?_
      refine lv_astore (lv' := [(5, .ref q), (0, .ref (xsA X 0)), (1, .int a0), (2, .int a1), (3, .int a2), (4, .ref (xsA X 131))]) hx hb dL_meet_14 hl (by decide) rfl (fun ls hl => ?_)
      refine lv_iconst (v := 1) hx hb dL_meet_16 (by decide) ?_
      exact xs_xiret C hr hlk (Or.inr ⟨_, _, e1, rfl, rfl⟩) hP hD hS (Nat.le_of_ble_eq_true rfl) (Nat.le_of_ble_eq_true rfl) dL_meet_17
    · refine vx_catch (own := RL) (name := "java/util/NoSuchElementException") (E := xsEx 4) C.2.2.2.1 [({ startPc := 0, endPc := 11, handlerPc := 14, catchType := 25 } : ExceptionTableEntry)] ({ startPc := 0, endPc := 11, handlerPc := 18, catchType := 41 } : ExceptionTableEntry) [({ startPc := 0, endPc := 11, handlerPc := 22, catchType := 13 } : ExceptionTableEntry), ({ startPc := 0, endPc := 11, handlerPc := 26, catchType := 19 } : ExceptionTableEntry)] htab (fun z hz => by
      simp only [List.mem_cons, List.mem_nil_iff, or_false] at hz
      rcases hz with rfl
      · exact Or.inr ⟨by decide, "java/lang/IndexOutOfBoundsException", xs_kts C _ w_1013, C.2.2.2.2.2.2.2.2.2.1.2.2.1.2.2.2.2.2.2.2.2.2.2.2⟩) (by decide) (by decide) (xs_kts C _ w_1074) (xs_bd3 (n := 4) C _ List.mem_cons_self) hq1 hq2 hq3 ?_
      refine lv_astore (lv' := [(5, .ref q), (0, .ref (xsA X 0)), (1, .int a0), (2, .int a1), (3, .int a2), (4, .ref (xsA X 131))]) hx hb dL_meet_18 hl (by decide) rfl (fun ls hl => ?_)
      refine lv_iconst (v := 2) hx hb dL_meet_20 (by decide) ?_
      exact xs_xiret C hr hlk (Or.inr ⟨_, _, e1, rfl, rfl⟩) hP hD hS (Nat.le_of_ble_eq_true rfl) (Nat.le_of_ble_eq_true rfl) dL_meet_21
    · refine vx_catch (own := RL) (name := "java/lang/IllegalArgumentException") (E := xsEx 1) C.2.2.2.1 [({ startPc := 0, endPc := 11, handlerPc := 14, catchType := 25 } : ExceptionTableEntry), ({ startPc := 0, endPc := 11, handlerPc := 18, catchType := 41 } : ExceptionTableEntry)] ({ startPc := 0, endPc := 11, handlerPc := 22, catchType := 13 } : ExceptionTableEntry) [({ startPc := 0, endPc := 11, handlerPc := 26, catchType := 19 } : ExceptionTableEntry)] htab (fun z hz => by
      simp only [List.mem_cons, List.mem_nil_iff, or_false] at hz
      rcases hz with rfl | rfl
      · exact Or.inr ⟨by decide, "java/lang/IndexOutOfBoundsException", xs_kts C _ w_1013, C.2.2.2.2.2.2.2.2.2.1.2.2.1.2.1⟩
      · exact Or.inr ⟨by decide, "java/util/NoSuchElementException", xs_kts C _ w_1074, C.2.2.2.2.2.2.2.2.2.1.2.2.1.2.2.1⟩) (by decide) (by decide) (xs_kts C _ w_768) (xs_bd3 (n := 1) C _ List.mem_cons_self) hq1 hq2 hq3 ?_
      refine lv_astore (lv' := [(5, .ref q), (0, .ref (xsA X 0)), (1, .int a0), (2, .int a1), (3, .int a2), (4, .ref (xsA X 131))]) hx hb dL_meet_22 hl (by decide) rfl (fun ls hl => ?_)
      refine lv_iconst (v := 3) hx hb dL_meet_24 (by decide) ?_
      exact xs_xiret C hr hlk (Or.inr ⟨_, _, e1, rfl, rfl⟩) hP hD hS (Nat.le_of_ble_eq_true rfl) (Nat.le_of_ble_eq_true rfl) dL_meet_25
    · refine vx_catch (own := RL) (name := "java/lang/IllegalStateException") (E := xsEx 2) C.2.2.2.1 [({ startPc := 0, endPc := 11, handlerPc := 14, catchType := 25 } : ExceptionTableEntry), ({ startPc := 0, endPc := 11, handlerPc := 18, catchType := 41 } : ExceptionTableEntry), ({ startPc := 0, endPc := 11, handlerPc := 22, catchType := 13 } : ExceptionTableEntry)] ({ startPc := 0, endPc := 11, handlerPc := 26, catchType := 19 } : ExceptionTableEntry) [] htab (fun z hz => by
      simp only [List.mem_cons, List.mem_nil_iff, or_false] at hz
      rcases hz with rfl | rfl | rfl
      · exact Or.inr ⟨by decide, "java/lang/IndexOutOfBoundsException", xs_kts C _ w_1013, C.2.2.2.2.2.2.2.2.2.1.2.2.1.2.2.2.2.1⟩
      · exact Or.inr ⟨by decide, "java/util/NoSuchElementException", xs_kts C _ w_1074, C.2.2.2.2.2.2.2.2.2.1.2.2.1.2.2.2.2.2.1⟩
      · exact Or.inr ⟨by decide, "java/lang/IllegalArgumentException", xs_kts C _ w_768, C.2.2.2.2.2.2.2.2.2.1.2.2.1.2.2.2.1⟩) (by decide) (by decide) (xs_kts C _ w_978) (xs_bd3 (n := 2) C _ List.mem_cons_self) hq1 hq2 hq3 ?_
      refine lv_astore (lv' := [(5, .ref q), (0, .ref (xsA X 0)), (1, .int a0), (2, .int a1), (3, .int a2), (4, .ref (xsA X 131))]) hx hb dL_meet_26 hl (by decide) rfl (fun ls hl => ?_)
      refine lv_iconst (v := 4) hx hb dL_meet_28 (by decide) ?_
      exact xs_xiret C hr hlk (Or.inr ⟨_, _, e1, rfl, rfl⟩) hP hD hS (Nat.le_of_ble_eq_true rfl) (Nat.le_of_ble_eq_true rfl) dL_meet_29
  · obtain ⟨tx, e1, e2, e3⟩ := hp
    subst e3
    subst e2
    refine xs_lout C hP hD hS dL_meet_10 (fun H locs hP hD hS => ?_)
    refine lv_goto (tgt := 30) hx hb dL_meet_11 (by decide) ?_
    refine lv_iconst (v := 0) hx hb dL_meet_30 (by decide) ?_
    exact xs_xiret C hr hlk (Or.inl ⟨_, e1, rfl, rfl⟩) hP hD hS (Nat.le_of_ble_eq_true rfl) (Nat.le_of_ble_eq_true rfl) dL_meet_31
set_option maxRecDepth 100000 in
set_option maxHeartbeats 8000000 in
theorem mL_along (l : Launch) (hst : l.stackTraces = false) {X : xsX} {kIsKept kIsStale hiLatest hiSize scLength scFault scAt scNumber piSegmentsNow enKind enFromX enFromY enToX enToY tiMeetingPairs tiAlongPairs tiSize evSize evCrossings evSegmentsNow grEdges grQueued huSize huBestX huBestY : Int32} {scBytes scTold tiTouching tiLyingAlong evBundle evCrossingOf evEventOf evLeftEvent evRightEvent grDegree grFar grQueue huX huY : Nat → Int32} {enX enY enLower : Int64} {evX evY evLower : Nat → Int64} {S : Nat → xsV} {Rw : va_W} {g0Lx g0Ly g0Rx g0Ry g0Ti : Nat → Int32} {g0Sz : Int32} (hs_0 : S 0 = (g0Lx, g0Ly, g0Rx, g0Ry, g0Ti, g0Sz)) {a0 : Int32} {a1 : Int32} {a2 : Int32} {out : (Int32 × Int32 × Int64 × Int64 × Int64 × Int32 × Int32 × Int32 × Int32) ⊕ (Nat × (Int32 × Int64 × Int64 × Int64 × Int32 × Int32 × Int32 × Int32))} {ou : Nat → Int64} (hf : fX10_along enKind enX enY enLower enFromX enFromY enToX enToY g0Lx g0Ly g0Rx g0Ry g0Sz a0 a1 a2 = some out) (hn : ∀ n tt, out = .inr (n, tt) → n = 3 ∨ n = 4 ∨ n = 1 ∨ n = 2) : vx_Met l yL_along (Cond.codeWith yL_along cL_along 6 (some .int) [(0, 12, 15, 25), (0, 12, 19, 41), (0, 12, 23, 13), (0, 12, 27, 19)] :: xsGt) { frames := 9, cells := 5, slots := 30, locals := 156 } (xsP X (wK X kIsKept kIsStale hiLatest hiSize scBytes scTold scLength scFault scAt scNumber piSegmentsNow enKind enX enY enLower enFromX enFromY enToX enToY tiTouching tiLyingAlong tiMeetingPairs tiAlongPairs tiSize evX evY evLower evBundle evCrossingOf evEventOf evLeftEvent evRightEvent evSize evCrossings evSegmentsNow grDegree grEdges grFar grQueue grQueued huX huY huSize huBestX huBestY S (xsOc X ou :: Rw)) [.ref (xsA X 0), .int a0, .int a1, .int a2, .ref (xsA X 131)]) (xsXi X (fun r u => (∃ tt, out = .inl tt ∧ r = 0 ∧ u = wK X kIsKept kIsStale hiLatest hiSize scBytes scTold scLength scFault scAt scNumber piSegmentsNow tt.2.1 tt.2.2.1 tt.2.2.2.1 tt.2.2.2.2.1 tt.2.2.2.2.2.1 tt.2.2.2.2.2.2.1 tt.2.2.2.2.2.2.2.1 tt.2.2.2.2.2.2.2.2 tiTouching tiLyingAlong tiMeetingPairs tiAlongPairs tiSize evX evY evLower evBundle evCrossingOf evEventOf evLeftEvent evRightEvent evSize evCrossings evSegmentsNow grDegree grEdges grFar grQueue grQueued huX huY huSize huBestX huBestY S (xsOc X (vp_updL ou 0 tt.1.toInt64) :: Rw)) ∨ (∃ n tt, out = .inr (n, tt) ∧ r = xsCd [(3, 1), (4, 2), (1, 3), (2, 4)] n ∧ u = wK X kIsKept kIsStale hiLatest hiSize scBytes scTold scLength scFault scAt scNumber piSegmentsNow tt.1 tt.2.1 tt.2.2.1 tt.2.2.2.1 tt.2.2.2.2.1 tt.2.2.2.2.2.1 tt.2.2.2.2.2.2.1 tt.2.2.2.2.2.2.2 tiTouching tiLyingAlong tiMeetingPairs tiAlongPairs tiSize evX evY evLower evBundle evCrossingOf evEventOf evLeftEvent evRightEvent evSize evCrossings evSegmentsNow grDegree grEdges grFar grQueue grQueued huX huY huSize huBestX huBestY S (xsOc X ou :: Rw)))) (fun _ _ _ => False) 5 30 (xsF X) := by
  refine xs_lmet RL (by decide) rfl (Nat.le_of_ble_eq_true rfl) ?_
  intro p e s m below meth c ls H locs C htab hP hD hS hr hlk hl
  have hx := C.1
  have hb := C.2.1
  have hl : lv_has ls 6 [(0, .ref (xsA X 0)), (1, .int a0), (2, .int a1), (3, .int a2), (4, .ref (xsA X 131))] := hl
  refine lv_aload hx hb dL_along_0 (lv_at hl 4 rfl) ?_
  refine lv_iconst (v := 0) hx hb dL_along_2 (by decide) ?_
  refine lv_aload_n hx hb dL_along_3 rfl (lv_at hl 0 rfl) ?_
  refine lv_iload_n hx hb dL_along_4 rfl (lv_at hl 1 rfl) ?_
  refine lv_iload_n hx hb dL_along_5 rfl (lv_at hl 2 rfl) ?_
  refine lv_iload_n hx hb dL_along_6 rfl (lv_at hl 3 rfl) ?_
  refine xs_xcalli hS (xs_xrunV (As := [.int a0, .int a1, .int a2]) (rest := [.int 0, .ref (xsA X 131)]) C (mX10_along l hst hs_0 hf) w_1157 w_1158 w_1159 w_105 w_1160 hd_X10_along ⟨rfl, rfl, Nat.le_of_ble_eq_true rfl, Nat.le_of_ble_eq_true rfl, Nat.le_of_ble_eq_true rfl, Nat.le_of_ble_eq_true rfl⟩ hP hD hS lk_X10 rfl hl.1 rfl (Nat.le_of_ble_eq_true rfl) dL_along_7) (fun n u q H locs hpx hP hD hS hq => ?_) (fun r u H locs hp hP hD hS => ?_)
  · obtain ⟨tx, e1, e2⟩ := hpx
    subst e2
    obtain ⟨ce, hq1, hq2, hq3⟩ := hq
    rcases hn n tx e1 with rfl | rfl | rfl | rfl
    · refine vx_catch (own := RL) (name := "java/lang/IndexOutOfBoundsException") (E := xsEx 3) C.2.2.2.1 [] ({ startPc := 0, endPc := 12, handlerPc := 15, catchType := 25 } : ExceptionTableEntry) [({ startPc := 0, endPc := 12, handlerPc := 19, catchType := 41 } : ExceptionTableEntry), ({ startPc := 0, endPc := 12, handlerPc := 23, catchType := 13 } : ExceptionTableEntry), ({ startPc := 0, endPc := 12, handlerPc := 27, catchType := 19 } : ExceptionTableEntry)] htab (fun z hz => absurd hz List.not_mem_nil) (by decide) (by decide) (xs_kts C _ w_1013) (xs_bd3 (n := 3) C _ List.mem_cons_self) hq1 hq2 hq3 ?_
      refine lv_astore (lv' := [(5, .ref q), (0, .ref (xsA X 0)), (1, .int a0), (2, .int a1), (3, .int a2), (4, .ref (xsA X 131))]) hx hb dL_along_15 hl (by decide) rfl (fun ls hl => ?_)
      refine lv_iconst (v := 1) hx hb dL_along_17 (by decide) ?_
      exact xs_xiret C hr hlk (Or.inr ⟨_, _, e1, rfl, rfl⟩) hP hD hS (Nat.le_of_ble_eq_true rfl) (Nat.le_of_ble_eq_true rfl) dL_along_18
    · refine vx_catch (own := RL) (name := "java/util/NoSuchElementException") (E := xsEx 4) C.2.2.2.1 [({ startPc := 0, endPc := 12, handlerPc := 15, catchType := 25 } : ExceptionTableEntry)] ({ startPc := 0, endPc := 12, handlerPc := 19, catchType := 41 } : ExceptionTableEntry) [({ startPc := 0, endPc := 12, handlerPc := 23, catchType := 13 } : ExceptionTableEntry), ({ startPc := 0, endPc := 12, handlerPc := 27, catchType := 19 } : ExceptionTableEntry)] htab (fun z hz => by
      simp only [List.mem_cons, List.mem_nil_iff, or_false] at hz
      rcases hz with rfl
      · exact Or.inr ⟨by decide, "java/lang/IndexOutOfBoundsException", xs_kts C _ w_1013, C.2.2.2.2.2.2.2.2.2.1.2.2.1.2.2.2.2.2.2.2.2.2.2.2⟩) (by decide) (by decide) (xs_kts C _ w_1074) (xs_bd3 (n := 4) C _ List.mem_cons_self) hq1 hq2 hq3 ?_
      refine lv_astore (lv' := [(5, .ref q), (0, .ref (xsA X 0)), (1, .int a0), (2, .int a1), (3, .int a2), (4, .ref (xsA X 131))]) hx hb dL_along_19 hl (by decide) rfl (fun ls hl => ?_)
      refine lv_iconst (v := 2) hx hb dL_along_21 (by decide) ?_
      exact xs_xiret C hr hlk (Or.inr ⟨_, _, e1, rfl, rfl⟩) hP hD hS (Nat.le_of_ble_eq_true rfl) (Nat.le_of_ble_eq_true rfl) dL_along_22
    · refine vx_catch (own := RL) (name := "java/lang/IllegalArgumentException") (E := xsEx 1) C.2.2.2.1 [({ startPc := 0, endPc := 12, handlerPc := 15, catchType := 25 } : ExceptionTableEntry), ({ startPc := 0, endPc := 12, handlerPc := 19, catchType := 41 } : ExceptionTableEntry)] ({ startPc := 0, endPc := 12, handlerPc := 23, catchType := 13 } : ExceptionTableEntry) [({ startPc := 0, endPc := 12, handlerPc := 27, catchType := 19 } : ExceptionTableEntry)] htab (fun z hz => by
      simp only [List.mem_cons, List.mem_nil_iff, or_false] at hz
      rcases hz with rfl | rfl
      · exact Or.inr ⟨by decide, "java/lang/IndexOutOfBoundsException", xs_kts C _ w_1013, C.2.2.2.2.2.2.2.2.2.1.2.2.1.2.1⟩
      · exact Or.inr ⟨by decide, "java/util/NoSuchElementException", xs_kts C _ w_1074, C.2.2.2.2.2.2.2.2.2.1.2.2.1.2.2.1⟩) (by decide) (by decide) (xs_kts C _ w_768) (xs_bd3 (n := 1) C _ List.mem_cons_self) hq1 hq2 hq3 ?_
      refine lv_astore (lv' := [(5, .ref q), (0, .ref (xsA X 0)), (1, .int a0), (2, .int a1), (3, .int a2), (4, .ref (xsA X 131))]) hx hb dL_along_23 hl (by decide) rfl (fun ls hl => ?_)
      refine lv_iconst (v := 3) hx hb dL_along_25 (by decide) ?_
      exact xs_xiret C hr hlk (Or.inr ⟨_, _, e1, rfl, rfl⟩) hP hD hS (Nat.le_of_ble_eq_true rfl) (Nat.le_of_ble_eq_true rfl) dL_along_26
    · refine vx_catch (own := RL) (name := "java/lang/IllegalStateException") (E := xsEx 2) C.2.2.2.1 [({ startPc := 0, endPc := 12, handlerPc := 15, catchType := 25 } : ExceptionTableEntry), ({ startPc := 0, endPc := 12, handlerPc := 19, catchType := 41 } : ExceptionTableEntry), ({ startPc := 0, endPc := 12, handlerPc := 23, catchType := 13 } : ExceptionTableEntry)] ({ startPc := 0, endPc := 12, handlerPc := 27, catchType := 19 } : ExceptionTableEntry) [] htab (fun z hz => by
      simp only [List.mem_cons, List.mem_nil_iff, or_false] at hz
      rcases hz with rfl | rfl | rfl
      · exact Or.inr ⟨by decide, "java/lang/IndexOutOfBoundsException", xs_kts C _ w_1013, C.2.2.2.2.2.2.2.2.2.1.2.2.1.2.2.2.2.1⟩
      · exact Or.inr ⟨by decide, "java/util/NoSuchElementException", xs_kts C _ w_1074, C.2.2.2.2.2.2.2.2.2.1.2.2.1.2.2.2.2.2.1⟩
      · exact Or.inr ⟨by decide, "java/lang/IllegalArgumentException", xs_kts C _ w_768, C.2.2.2.2.2.2.2.2.2.1.2.2.1.2.2.2.1⟩) (by decide) (by decide) (xs_kts C _ w_978) (xs_bd3 (n := 2) C _ List.mem_cons_self) hq1 hq2 hq3 ?_
      refine lv_astore (lv' := [(5, .ref q), (0, .ref (xsA X 0)), (1, .int a0), (2, .int a1), (3, .int a2), (4, .ref (xsA X 131))]) hx hb dL_along_27 hl (by decide) rfl (fun ls hl => ?_)
      refine lv_iconst (v := 4) hx hb dL_along_29 (by decide) ?_
      exact xs_xiret C hr hlk (Or.inr ⟨_, _, e1, rfl, rfl⟩) hP hD hS (Nat.le_of_ble_eq_true rfl) (Nat.le_of_ble_eq_true rfl) dL_along_30
  · obtain ⟨tx, e1, e2, e3⟩ := hp
    subst e3
    subst e2
    refine lv_i2l hx hb dL_along_10 rfl ?_
    refine xs_lout C hP hD hS dL_along_11 (fun H locs hP hD hS => ?_)
    refine lv_goto (tgt := 31) hx hb dL_along_12 (by decide) ?_
    refine lv_iconst (v := 0) hx hb dL_along_31 (by decide) ?_
    exact xs_xiret C hr hlk (Or.inl ⟨_, e1, rfl, rfl⟩) hP hD hS (Nat.le_of_ble_eq_true rfl) (Nat.le_of_ble_eq_true rfl) dL_along_32
set_option maxRecDepth 100000 in
set_option maxHeartbeats 8000000 in
theorem mL_crossing (l : Launch) (hst : l.stackTraces = false) {X : xsX} {kIsKept kIsStale hiLatest hiSize scLength scFault scAt scNumber piSegmentsNow enKind enFromX enFromY enToX enToY tiMeetingPairs tiAlongPairs tiSize evSize evCrossings evSegmentsNow grEdges grQueued huSize huBestX huBestY : Int32} {scBytes scTold tiTouching tiLyingAlong evBundle evCrossingOf evEventOf evLeftEvent evRightEvent grDegree grFar grQueue huX huY : Nat → Int32} {enX enY enLower : Int64} {evX evY evLower : Nat → Int64} {S : Nat → xsV} {Rw : va_W} {g0Lx g0Ly g0Rx g0Ry g0Ti : Nat → Int32} {g0Sz : Int32} (hs_0 : S 0 = (g0Lx, g0Ly, g0Rx, g0Ry, g0Ti, g0Sz)) {a0 : Int32} {a1 : Int32} {out : (Int64 × Int32 × Int32 × Int32 × Int64 × Int64 × Int64 × Int32 × Int32 × Int32 × Int32 × (Nat → Int32) × (Nat → Int32) × Int32 × Int32 × Int32 × (Nat → Int64) × (Nat → Int64) × (Nat → Int64) × (Nat → Int32) × (Nat → Int32) × (Nat → Int32) × (Nat → Int32) × (Nat → Int32) × Int32 × Int32 × Int32 × (Nat → Int32) × Int32) ⊕ (Nat × (Int32 × Int32 × Int32 × Int64 × Int64 × Int64 × Int32 × Int32 × Int32 × Int32 × (Nat → Int32) × (Nat → Int32) × Int32 × Int32 × Int32 × (Nat → Int64) × (Nat → Int64) × (Nat → Int64) × (Nat → Int32) × (Nat → Int32) × (Nat → Int32) × (Nat → Int32) × (Nat → Int32) × Int32 × Int32 × Int32 × (Nat → Int32) × Int32))} {ou : Nat → Int64} (hf : fX10_crossing kIsStale piSegmentsNow enKind enX enY enLower enFromX enFromY enToX enToY tiTouching tiLyingAlong tiMeetingPairs tiAlongPairs tiSize evX evY evLower evBundle evCrossingOf evEventOf evLeftEvent evRightEvent evSize evCrossings evSegmentsNow grDegree grEdges g0Lx g0Ly g0Rx g0Ry g0Ti g0Sz a0 a1 = some out) (hn : ∀ n tt, out = .inr (n, tt) → n = 3 ∨ n = 4) : vx_Met l yL_crossing (Cond.codeWith yL_crossing cL_crossing 5 (some .int) [(0, 9, 12, 25), (0, 9, 16, 41)] :: xsGt) { frames := 8, cells := 2, slots := 12, locals := 178 } (xsP X (wK X kIsKept kIsStale hiLatest hiSize scBytes scTold scLength scFault scAt scNumber piSegmentsNow enKind enX enY enLower enFromX enFromY enToX enToY tiTouching tiLyingAlong tiMeetingPairs tiAlongPairs tiSize evX evY evLower evBundle evCrossingOf evEventOf evLeftEvent evRightEvent evSize evCrossings evSegmentsNow grDegree grEdges grFar grQueue grQueued huX huY huSize huBestX huBestY S (xsOc X ou :: Rw)) [.ref (xsA X 0), .int a0, .int a1, .ref (xsA X 131)]) (xsXi X (fun r u => (∃ tt, out = .inl tt ∧ r = 0 ∧ u = wK X kIsKept tt.2.1 hiLatest hiSize scBytes scTold scLength scFault scAt scNumber tt.2.2.1 tt.2.2.2.1 tt.2.2.2.2.1 tt.2.2.2.2.2.1 tt.2.2.2.2.2.2.1 tt.2.2.2.2.2.2.2.1 tt.2.2.2.2.2.2.2.2.1 tt.2.2.2.2.2.2.2.2.2.1 tt.2.2.2.2.2.2.2.2.2.2.1 tt.2.2.2.2.2.2.2.2.2.2.2.1 tt.2.2.2.2.2.2.2.2.2.2.2.2.1 tt.2.2.2.2.2.2.2.2.2.2.2.2.2.1 tt.2.2.2.2.2.2.2.2.2.2.2.2.2.2.1 tt.2.2.2.2.2.2.2.2.2.2.2.2.2.2.2.1 tt.2.2.2.2.2.2.2.2.2.2.2.2.2.2.2.2.1 tt.2.2.2.2.2.2.2.2.2.2.2.2.2.2.2.2.2.1 tt.2.2.2.2.2.2.2.2.2.2.2.2.2.2.2.2.2.2.1 tt.2.2.2.2.2.2.2.2.2.2.2.2.2.2.2.2.2.2.2.1 tt.2.2.2.2.2.2.2.2.2.2.2.2.2.2.2.2.2.2.2.2.1 tt.2.2.2.2.2.2.2.2.2.2.2.2.2.2.2.2.2.2.2.2.2.1 tt.2.2.2.2.2.2.2.2.2.2.2.2.2.2.2.2.2.2.2.2.2.2.1 tt.2.2.2.2.2.2.2.2.2.2.2.2.2.2.2.2.2.2.2.2.2.2.2.1 tt.2.2.2.2.2.2.2.2.2.2.2.2.2.2.2.2.2.2.2.2.2.2.2.2.1 tt.2.2.2.2.2.2.2.2.2.2.2.2.2.2.2.2.2.2.2.2.2.2.2.2.2.1 tt.2.2.2.2.2.2.2.2.2.2.2.2.2.2.2.2.2.2.2.2.2.2.2.2.2.2.1 tt.2.2.2.2.2.2.2.2.2.2.2.2.2.2.2.2.2.2.2.2.2.2.2.2.2.2.2.1 tt.2.2.2.2.2.2.2.2.2.2.2.2.2.2.2.2.2.2.2.2.2.2.2.2.2.2.2.2 grFar grQueue grQueued huX huY huSize huBestX huBestY S (xsOc X (vp_updL ou 0 tt.1) :: Rw)) ∨ (∃ n tt, out = .inr (n, tt) ∧ r = xsCd [(3, 1), (4, 2)] n ∧ u = wK X kIsKept tt.1 hiLatest hiSize scBytes scTold scLength scFault scAt scNumber tt.2.1 tt.2.2.1 tt.2.2.2.1 tt.2.2.2.2.1 tt.2.2.2.2.2.1 tt.2.2.2.2.2.2.1 tt.2.2.2.2.2.2.2.1 tt.2.2.2.2.2.2.2.2.1 tt.2.2.2.2.2.2.2.2.2.1 tt.2.2.2.2.2.2.2.2.2.2.1 tt.2.2.2.2.2.2.2.2.2.2.2.1 tt.2.2.2.2.2.2.2.2.2.2.2.2.1 tt.2.2.2.2.2.2.2.2.2.2.2.2.2.1 tt.2.2.2.2.2.2.2.2.2.2.2.2.2.2.1 tt.2.2.2.2.2.2.2.2.2.2.2.2.2.2.2.1 tt.2.2.2.2.2.2.2.2.2.2.2.2.2.2.2.2.1 tt.2.2.2.2.2.2.2.2.2.2.2.2.2.2.2.2.2.1 tt.2.2.2.2.2.2.2.2.2.2.2.2.2.2.2.2.2.2.1 tt.2.2.2.2.2.2.2.2.2.2.2.2.2.2.2.2.2.2.2.1 tt.2.2.2.2.2.2.2.2.2.2.2.2.2.2.2.2.2.2.2.2.1 tt.2.2.2.2.2.2.2.2.2.2.2.2.2.2.2.2.2.2.2.2.2.1 tt.2.2.2.2.2.2.2.2.2.2.2.2.2.2.2.2.2.2.2.2.2.2.1 tt.2.2.2.2.2.2.2.2.2.2.2.2.2.2.2.2.2.2.2.2.2.2.2.1 tt.2.2.2.2.2.2.2.2.2.2.2.2.2.2.2.2.2.2.2.2.2.2.2.2.1 tt.2.2.2.2.2.2.2.2.2.2.2.2.2.2.2.2.2.2.2.2.2.2.2.2.2.1 tt.2.2.2.2.2.2.2.2.2.2.2.2.2.2.2.2.2.2.2.2.2.2.2.2.2.2.1 tt.2.2.2.2.2.2.2.2.2.2.2.2.2.2.2.2.2.2.2.2.2.2.2.2.2.2.2 grFar grQueue grQueued huX huY huSize huBestX huBestY S (xsOc X ou :: Rw)))) (fun _ _ _ => False) 2 12 (xsF X) := by
  refine xs_lmet RL (by decide) rfl (Nat.le_of_ble_eq_true rfl) ?_
  intro p e s m below meth c ls H locs C htab hP hD hS hr hlk hl
  have hx := C.1
  have hb := C.2.1
  have hl : lv_has ls 5 [(0, .ref (xsA X 0)), (1, .int a0), (2, .int a1), (3, .ref (xsA X 131))] := hl
  refine lv_aload_n hx hb dL_crossing_0 rfl (lv_at hl 3 rfl) ?_
  refine lv_iconst (v := 0) hx hb dL_crossing_1 (by decide) ?_
  refine lv_aload_n hx hb dL_crossing_2 rfl (lv_at hl 0 rfl) ?_
  refine lv_iload_n hx hb dL_crossing_3 rfl (lv_at hl 1 rfl) ?_
  refine lv_iload_n hx hb dL_crossing_4 rfl (lv_at hl 2 rfl) ?_
  refine xs_xcalll hS (xs_xrunV (As := [.int a0, .int a1]) (rest := [.int 0, .ref (xsA X 131)]) C (mX10_crossing l hst hs_0 hf) w_1165 w_1166 w_1167 w_105 w_1168 hd_X10_crossing ⟨rfl, rfl, Nat.le_of_ble_eq_true rfl, Nat.le_of_ble_eq_true rfl, Nat.le_of_ble_eq_true rfl, Nat.le_of_ble_eq_true rfl⟩ hP hD hS lk_X10 rfl hl.1 rfl (Nat.le_of_ble_eq_true rfl) dL_crossing_5) (fun n u q H locs hpx hP hD hS hq => ?_) (fun r u H locs hp hP hD hS => ?_)
  · obtain ⟨tx, e1, e2⟩ := hpx
    subst e2
    obtain ⟨ce, hq1, hq2, hq3⟩ := hq
    rcases hn n tx e1 with rfl | rfl
    · refine vx_catch (own := RL) (name := "java/lang/IndexOutOfBoundsException") (E := xsEx 3) C.2.2.2.1 [] ({ startPc := 0, endPc := 9, handlerPc := 12, catchType := 25 } : ExceptionTableEntry) [({ startPc := 0, endPc := 9, handlerPc := 16, catchType := 41 } : ExceptionTableEntry)] htab (fun z hz => absurd hz List.not_mem_nil) (by decide) (by decide) (xs_kts C _ w_1013) (xs_bd3 (n := 3) C _ List.mem_cons_self) hq1 hq2 hq3 ?_
      refine lv_astore (lv' := [(4, .ref q), (0, .ref (xsA X 0)), (1, .int a0), (2, .int a1), (3, .ref (xsA X 131))]) hx hb dL_crossing_12 hl (by decide) rfl (fun ls hl => ?_)
      refine lv_iconst (v := 1) hx hb dL_crossing_14 (by decide) ?_
      exact xs_xiret C hr hlk (Or.inr ⟨_, _, e1, rfl, rfl⟩) hP hD hS (Nat.le_of_ble_eq_true rfl) (Nat.le_of_ble_eq_true rfl) dL_crossing_15
    · refine vx_catch (own := RL) (name := "java/util/NoSuchElementException") (E := xsEx 4) C.2.2.2.1 [({ startPc := 0, endPc := 9, handlerPc := 12, catchType := 25 } : ExceptionTableEntry)] ({ startPc := 0, endPc := 9, handlerPc := 16, catchType := 41 } : ExceptionTableEntry) [] htab (fun z hz => by
      simp only [List.mem_cons, List.mem_nil_iff, or_false] at hz
      rcases hz with rfl
      · exact Or.inr ⟨by decide, "java/lang/IndexOutOfBoundsException", xs_kts C _ w_1013, C.2.2.2.2.2.2.2.2.2.1.2.2.1.2.2.2.2.2.2.2.2.2.2.2⟩) (by decide) (by decide) (xs_kts C _ w_1074) (xs_bd3 (n := 4) C _ List.mem_cons_self) hq1 hq2 hq3 ?_
      refine lv_astore (lv' := [(4, .ref q), (0, .ref (xsA X 0)), (1, .int a0), (2, .int a1), (3, .ref (xsA X 131))]) hx hb dL_crossing_16 hl (by decide) rfl (fun ls hl => ?_)
      refine lv_iconst (v := 2) hx hb dL_crossing_18 (by decide) ?_
      exact xs_xiret C hr hlk (Or.inr ⟨_, _, e1, rfl, rfl⟩) hP hD hS (Nat.le_of_ble_eq_true rfl) (Nat.le_of_ble_eq_true rfl) dL_crossing_19
  · obtain ⟨tx, e1, e2, e3⟩ := hp
    subst e3
    subst e2
    refine xs_lout C hP hD hS dL_crossing_8 (fun H locs hP hD hS => ?_)
    refine lv_goto (tgt := 20) hx hb dL_crossing_9 (by decide) ?_
    refine lv_iconst (v := 0) hx hb dL_crossing_20 (by decide) ?_
    exact xs_xiret C hr hlk (Or.inl ⟨_, e1, rfl, rfl⟩) hP hD hS (Nat.le_of_ble_eq_true rfl) (Nat.le_of_ble_eq_true rfl) dL_crossing_21
set_option maxRecDepth 100000 in
set_option maxHeartbeats 8000000 in
theorem mL_event (l : Launch) (hst : l.stackTraces = false) {X : xsX} {kIsKept kIsStale hiLatest hiSize scLength scFault scAt scNumber piSegmentsNow enKind enFromX enFromY enToX enToY tiMeetingPairs tiAlongPairs tiSize evSize evCrossings evSegmentsNow grEdges grQueued huSize huBestX huBestY : Int32} {scBytes scTold tiTouching tiLyingAlong evBundle evCrossingOf evEventOf evLeftEvent evRightEvent grDegree grFar grQueue huX huY : Nat → Int32} {enX enY enLower : Int64} {evX evY evLower : Nat → Int64} {S : Nat → xsV} {Rw : va_W} {g0Lx g0Ly g0Rx g0Ry g0Ti : Nat → Int32} {g0Sz : Int32} (hs_0 : S 0 = (g0Lx, g0Ly, g0Rx, g0Ry, g0Ti, g0Sz)) {a0 : Int32} {a1 : Int32} {out : (Int64 × Int32 × Int32 × Int32 × Int64 × Int64 × Int64 × Int32 × Int32 × Int32 × Int32 × (Nat → Int32) × (Nat → Int32) × Int32 × Int32 × Int32 × (Nat → Int64) × (Nat → Int64) × (Nat → Int64) × (Nat → Int32) × (Nat → Int32) × (Nat → Int32) × (Nat → Int32) × (Nat → Int32) × Int32 × Int32 × Int32 × (Nat → Int32) × Int32) ⊕ (Nat × (Int32 × Int32 × Int32 × Int64 × Int64 × Int64 × Int32 × Int32 × Int32 × Int32 × (Nat → Int32) × (Nat → Int32) × Int32 × Int32 × Int32 × (Nat → Int64) × (Nat → Int64) × (Nat → Int64) × (Nat → Int32) × (Nat → Int32) × (Nat → Int32) × (Nat → Int32) × (Nat → Int32) × Int32 × Int32 × Int32 × (Nat → Int32) × Int32))} {ou : Nat → Int64} (hf : fX10_event kIsStale piSegmentsNow enKind enX enY enLower enFromX enFromY enToX enToY tiTouching tiLyingAlong tiMeetingPairs tiAlongPairs tiSize evX evY evLower evBundle evCrossingOf evEventOf evLeftEvent evRightEvent evSize evCrossings evSegmentsNow grDegree grEdges g0Lx g0Ly g0Rx g0Ry g0Sz a0 a1 = some out) (hn : ∀ n tt, out = .inr (n, tt) → n = 3 ∨ n = 4) : vx_Met l yL_event (Cond.codeWith yL_event cL_event 5 (some .int) [(0, 9, 12, 25), (0, 9, 16, 41)] :: xsGt) { frames := 8, cells := 2, slots := 12, locals := 176 } (xsP X (wK X kIsKept kIsStale hiLatest hiSize scBytes scTold scLength scFault scAt scNumber piSegmentsNow enKind enX enY enLower enFromX enFromY enToX enToY tiTouching tiLyingAlong tiMeetingPairs tiAlongPairs tiSize evX evY evLower evBundle evCrossingOf evEventOf evLeftEvent evRightEvent evSize evCrossings evSegmentsNow grDegree grEdges grFar grQueue grQueued huX huY huSize huBestX huBestY S (xsOc X ou :: Rw)) [.ref (xsA X 0), .int a0, .int a1, .ref (xsA X 131)]) (xsXi X (fun r u => (∃ tt, out = .inl tt ∧ r = 0 ∧ u = wK X kIsKept tt.2.1 hiLatest hiSize scBytes scTold scLength scFault scAt scNumber tt.2.2.1 tt.2.2.2.1 tt.2.2.2.2.1 tt.2.2.2.2.2.1 tt.2.2.2.2.2.2.1 tt.2.2.2.2.2.2.2.1 tt.2.2.2.2.2.2.2.2.1 tt.2.2.2.2.2.2.2.2.2.1 tt.2.2.2.2.2.2.2.2.2.2.1 tt.2.2.2.2.2.2.2.2.2.2.2.1 tt.2.2.2.2.2.2.2.2.2.2.2.2.1 tt.2.2.2.2.2.2.2.2.2.2.2.2.2.1 tt.2.2.2.2.2.2.2.2.2.2.2.2.2.2.1 tt.2.2.2.2.2.2.2.2.2.2.2.2.2.2.2.1 tt.2.2.2.2.2.2.2.2.2.2.2.2.2.2.2.2.1 tt.2.2.2.2.2.2.2.2.2.2.2.2.2.2.2.2.2.1 tt.2.2.2.2.2.2.2.2.2.2.2.2.2.2.2.2.2.2.1 tt.2.2.2.2.2.2.2.2.2.2.2.2.2.2.2.2.2.2.2.1 tt.2.2.2.2.2.2.2.2.2.2.2.2.2.2.2.2.2.2.2.2.1 tt.2.2.2.2.2.2.2.2.2.2.2.2.2.2.2.2.2.2.2.2.2.1 tt.2.2.2.2.2.2.2.2.2.2.2.2.2.2.2.2.2.2.2.2.2.2.1 tt.2.2.2.2.2.2.2.2.2.2.2.2.2.2.2.2.2.2.2.2.2.2.2.1 tt.2.2.2.2.2.2.2.2.2.2.2.2.2.2.2.2.2.2.2.2.2.2.2.2.1 tt.2.2.2.2.2.2.2.2.2.2.2.2.2.2.2.2.2.2.2.2.2.2.2.2.2.1 tt.2.2.2.2.2.2.2.2.2.2.2.2.2.2.2.2.2.2.2.2.2.2.2.2.2.2.1 tt.2.2.2.2.2.2.2.2.2.2.2.2.2.2.2.2.2.2.2.2.2.2.2.2.2.2.2.1 tt.2.2.2.2.2.2.2.2.2.2.2.2.2.2.2.2.2.2.2.2.2.2.2.2.2.2.2.2 grFar grQueue grQueued huX huY huSize huBestX huBestY S (xsOc X (vp_updL ou 0 tt.1) :: Rw)) ∨ (∃ n tt, out = .inr (n, tt) ∧ r = xsCd [(3, 1), (4, 2)] n ∧ u = wK X kIsKept tt.1 hiLatest hiSize scBytes scTold scLength scFault scAt scNumber tt.2.1 tt.2.2.1 tt.2.2.2.1 tt.2.2.2.2.1 tt.2.2.2.2.2.1 tt.2.2.2.2.2.2.1 tt.2.2.2.2.2.2.2.1 tt.2.2.2.2.2.2.2.2.1 tt.2.2.2.2.2.2.2.2.2.1 tt.2.2.2.2.2.2.2.2.2.2.1 tt.2.2.2.2.2.2.2.2.2.2.2.1 tt.2.2.2.2.2.2.2.2.2.2.2.2.1 tt.2.2.2.2.2.2.2.2.2.2.2.2.2.1 tt.2.2.2.2.2.2.2.2.2.2.2.2.2.2.1 tt.2.2.2.2.2.2.2.2.2.2.2.2.2.2.2.1 tt.2.2.2.2.2.2.2.2.2.2.2.2.2.2.2.2.1 tt.2.2.2.2.2.2.2.2.2.2.2.2.2.2.2.2.2.1 tt.2.2.2.2.2.2.2.2.2.2.2.2.2.2.2.2.2.2.1 tt.2.2.2.2.2.2.2.2.2.2.2.2.2.2.2.2.2.2.2.1 tt.2.2.2.2.2.2.2.2.2.2.2.2.2.2.2.2.2.2.2.2.1 tt.2.2.2.2.2.2.2.2.2.2.2.2.2.2.2.2.2.2.2.2.2.1 tt.2.2.2.2.2.2.2.2.2.2.2.2.2.2.2.2.2.2.2.2.2.2.1 tt.2.2.2.2.2.2.2.2.2.2.2.2.2.2.2.2.2.2.2.2.2.2.2.1 tt.2.2.2.2.2.2.2.2.2.2.2.2.2.2.2.2.2.2.2.2.2.2.2.2.1 tt.2.2.2.2.2.2.2.2.2.2.2.2.2.2.2.2.2.2.2.2.2.2.2.2.2.1 tt.2.2.2.2.2.2.2.2.2.2.2.2.2.2.2.2.2.2.2.2.2.2.2.2.2.2.1 tt.2.2.2.2.2.2.2.2.2.2.2.2.2.2.2.2.2.2.2.2.2.2.2.2.2.2.2 grFar grQueue grQueued huX huY huSize huBestX huBestY S (xsOc X ou :: Rw)))) (fun _ _ _ => False) 2 12 (xsF X) := by
  refine xs_lmet RL (by decide) rfl (Nat.le_of_ble_eq_true rfl) ?_
  intro p e s m below meth c ls H locs C htab hP hD hS hr hlk hl
  have hx := C.1
  have hb := C.2.1
  have hl : lv_has ls 5 [(0, .ref (xsA X 0)), (1, .int a0), (2, .int a1), (3, .ref (xsA X 131))] := hl
  refine lv_aload_n hx hb dL_event_0 rfl (lv_at hl 3 rfl) ?_
  refine lv_iconst (v := 0) hx hb dL_event_1 (by decide) ?_
  refine lv_aload_n hx hb dL_event_2 rfl (lv_at hl 0 rfl) ?_
  refine lv_iload_n hx hb dL_event_3 rfl (lv_at hl 1 rfl) ?_
  refine lv_iload_n hx hb dL_event_4 rfl (lv_at hl 2 rfl) ?_
  refine xs_xcalll hS (xs_xrunV (As := [.int a0, .int a1]) (rest := [.int 0, .ref (xsA X 131)]) C (mX10_event l hst hs_0 hf) w_1178 w_1179 w_1180 w_105 w_1181 hd_X10_event ⟨rfl, rfl, Nat.le_of_ble_eq_true rfl, Nat.le_of_ble_eq_true rfl, Nat.le_of_ble_eq_true rfl, Nat.le_of_ble_eq_true rfl⟩ hP hD hS lk_X10 rfl hl.1 rfl (Nat.le_of_ble_eq_true rfl) dL_event_5) (fun n u q H locs hpx hP hD hS hq => ?_) (fun r u H locs hp hP hD hS => ?_)
  · obtain ⟨tx, e1, e2⟩ := hpx
    subst e2
    obtain ⟨ce, hq1, hq2, hq3⟩ := hq
    rcases hn n tx e1 with rfl | rfl
    · refine vx_catch (own := RL) (name := "java/lang/IndexOutOfBoundsException") (E := xsEx 3) C.2.2.2.1 [] ({ startPc := 0, endPc := 9, handlerPc := 12, catchType := 25 } : ExceptionTableEntry) [({ startPc := 0, endPc := 9, handlerPc := 16, catchType := 41 } : ExceptionTableEntry)] htab (fun z hz => absurd hz List.not_mem_nil) (by decide) (by decide) (xs_kts C _ w_1013) (xs_bd3 (n := 3) C _ List.mem_cons_self) hq1 hq2 hq3 ?_
      refine lv_astore (lv' := [(4, .ref q), (0, .ref (xsA X 0)), (1, .int a0), (2, .int a1), (3, .ref (xsA X 131))]) hx hb dL_event_12 hl (by decide) rfl (fun ls hl => ?_)
      refine lv_iconst (v := 1) hx hb dL_event_14 (by decide) ?_
      exact xs_xiret C hr hlk (Or.inr ⟨_, _, e1, rfl, rfl⟩) hP hD hS (Nat.le_of_ble_eq_true rfl) (Nat.le_of_ble_eq_true rfl) dL_event_15
    · refine vx_catch (own := RL) (name := "java/util/NoSuchElementException") (E := xsEx 4) C.2.2.2.1 [({ startPc := 0, endPc := 9, handlerPc := 12, catchType := 25 } : ExceptionTableEntry)] ({ startPc := 0, endPc := 9, handlerPc := 16, catchType := 41 } : ExceptionTableEntry) [] htab (fun z hz => by
      simp only [List.mem_cons, List.mem_nil_iff, or_false] at hz
      rcases hz with rfl
      · exact Or.inr ⟨by decide, "java/lang/IndexOutOfBoundsException", xs_kts C _ w_1013, C.2.2.2.2.2.2.2.2.2.1.2.2.1.2.2.2.2.2.2.2.2.2.2.2⟩) (by decide) (by decide) (xs_kts C _ w_1074) (xs_bd3 (n := 4) C _ List.mem_cons_self) hq1 hq2 hq3 ?_
      refine lv_astore (lv' := [(4, .ref q), (0, .ref (xsA X 0)), (1, .int a0), (2, .int a1), (3, .ref (xsA X 131))]) hx hb dL_event_16 hl (by decide) rfl (fun ls hl => ?_)
      refine lv_iconst (v := 2) hx hb dL_event_18 (by decide) ?_
      exact xs_xiret C hr hlk (Or.inr ⟨_, _, e1, rfl, rfl⟩) hP hD hS (Nat.le_of_ble_eq_true rfl) (Nat.le_of_ble_eq_true rfl) dL_event_19
  · obtain ⟨tx, e1, e2, e3⟩ := hp
    subst e3
    subst e2
    refine xs_lout C hP hD hS dL_event_8 (fun H locs hP hD hS => ?_)
    refine lv_goto (tgt := 20) hx hb dL_event_9 (by decide) ?_
    refine lv_iconst (v := 0) hx hb dL_event_20 (by decide) ?_
    exact xs_xiret C hr hlk (Or.inl ⟨_, e1, rfl, rfl⟩) hP hD hS (Nat.le_of_ble_eq_true rfl) (Nat.le_of_ble_eq_true rfl) dL_event_21
set_option maxRecDepth 100000 in
set_option maxHeartbeats 8000000 in
theorem mL_status (l : Launch) (hst : l.stackTraces = false) {X : xsX} {kIsKept kIsStale hiLatest hiSize scLength scFault scAt scNumber piSegmentsNow enKind enFromX enFromY enToX enToY tiMeetingPairs tiAlongPairs tiSize evSize evCrossings evSegmentsNow grEdges grQueued huSize huBestX huBestY : Int32} {scBytes scTold tiTouching tiLyingAlong evBundle evCrossingOf evEventOf evLeftEvent evRightEvent grDegree grFar grQueue huX huY : Nat → Int32} {enX enY enLower : Int64} {evX evY evLower : Nat → Int64} {S : Nat → xsV} {Rw : va_W} {g0Lx g0Ly g0Rx g0Ry g0Ti : Nat → Int32} {g0Sz : Int32} (hs_0 : S 0 = (g0Lx, g0Ly, g0Rx, g0Ry, g0Ti, g0Sz)) {a0 : Int32} {a1 : Int32} {out : (Int32 × Int32 × Int32 × Int32 × Int64 × Int64 × Int64 × Int32 × Int32 × Int32 × Int32 × (Nat → Int32) × (Nat → Int32) × Int32 × Int32 × Int32 × (Nat → Int64) × (Nat → Int64) × (Nat → Int64) × (Nat → Int32) × (Nat → Int32) × (Nat → Int32) × (Nat → Int32) × (Nat → Int32) × Int32 × Int32 × Int32 × (Nat → Int32) × Int32) ⊕ (Nat × (Int32 × Int32 × Int32 × Int64 × Int64 × Int64 × Int32 × Int32 × Int32 × Int32 × (Nat → Int32) × (Nat → Int32) × Int32 × Int32 × Int32 × (Nat → Int64) × (Nat → Int64) × (Nat → Int64) × (Nat → Int32) × (Nat → Int32) × (Nat → Int32) × (Nat → Int32) × (Nat → Int32) × Int32 × Int32 × Int32 × (Nat → Int32) × Int32))} {ou : Nat → Int64} (hf : fX10_status kIsStale piSegmentsNow enKind enX enY enLower enFromX enFromY enToX enToY tiTouching tiLyingAlong tiMeetingPairs tiAlongPairs tiSize evX evY evLower evBundle evCrossingOf evEventOf evLeftEvent evRightEvent evSize evCrossings evSegmentsNow grDegree grEdges g0Lx g0Ly g0Rx g0Ry g0Sz a0 a1 = some out) (hn : ∀ n tt, out = .inr (n, tt) → n = 3) : vx_Met l yL_status (Cond.codeWith yL_status cL_status 5 (some .int) [(0, 10, 13, 25)] :: xsGt) { frames := 8, cells := 1, slots := 6, locals := 178 } (xsP X (wK X kIsKept kIsStale hiLatest hiSize scBytes scTold scLength scFault scAt scNumber piSegmentsNow enKind enX enY enLower enFromX enFromY enToX enToY tiTouching tiLyingAlong tiMeetingPairs tiAlongPairs tiSize evX evY evLower evBundle evCrossingOf evEventOf evLeftEvent evRightEvent evSize evCrossings evSegmentsNow grDegree grEdges grFar grQueue grQueued huX huY huSize huBestX huBestY S (xsOc X ou :: Rw)) [.ref (xsA X 0), .int a0, .int a1, .ref (xsA X 131)]) (xsXi X (fun r u => (∃ tt, out = .inl tt ∧ r = 0 ∧ u = wK X kIsKept tt.2.1 hiLatest hiSize scBytes scTold scLength scFault scAt scNumber tt.2.2.1 tt.2.2.2.1 tt.2.2.2.2.1 tt.2.2.2.2.2.1 tt.2.2.2.2.2.2.1 tt.2.2.2.2.2.2.2.1 tt.2.2.2.2.2.2.2.2.1 tt.2.2.2.2.2.2.2.2.2.1 tt.2.2.2.2.2.2.2.2.2.2.1 tt.2.2.2.2.2.2.2.2.2.2.2.1 tt.2.2.2.2.2.2.2.2.2.2.2.2.1 tt.2.2.2.2.2.2.2.2.2.2.2.2.2.1 tt.2.2.2.2.2.2.2.2.2.2.2.2.2.2.1 tt.2.2.2.2.2.2.2.2.2.2.2.2.2.2.2.1 tt.2.2.2.2.2.2.2.2.2.2.2.2.2.2.2.2.1 tt.2.2.2.2.2.2.2.2.2.2.2.2.2.2.2.2.2.1 tt.2.2.2.2.2.2.2.2.2.2.2.2.2.2.2.2.2.2.1 tt.2.2.2.2.2.2.2.2.2.2.2.2.2.2.2.2.2.2.2.1 tt.2.2.2.2.2.2.2.2.2.2.2.2.2.2.2.2.2.2.2.2.1 tt.2.2.2.2.2.2.2.2.2.2.2.2.2.2.2.2.2.2.2.2.2.1 tt.2.2.2.2.2.2.2.2.2.2.2.2.2.2.2.2.2.2.2.2.2.2.1 tt.2.2.2.2.2.2.2.2.2.2.2.2.2.2.2.2.2.2.2.2.2.2.2.1 tt.2.2.2.2.2.2.2.2.2.2.2.2.2.2.2.2.2.2.2.2.2.2.2.2.1 tt.2.2.2.2.2.2.2.2.2.2.2.2.2.2.2.2.2.2.2.2.2.2.2.2.2.1 tt.2.2.2.2.2.2.2.2.2.2.2.2.2.2.2.2.2.2.2.2.2.2.2.2.2.2.1 tt.2.2.2.2.2.2.2.2.2.2.2.2.2.2.2.2.2.2.2.2.2.2.2.2.2.2.2.1 tt.2.2.2.2.2.2.2.2.2.2.2.2.2.2.2.2.2.2.2.2.2.2.2.2.2.2.2.2 grFar grQueue grQueued huX huY huSize huBestX huBestY S (xsOc X (vp_updL ou 0 tt.1.toInt64) :: Rw)) ∨ (∃ n tt, out = .inr (n, tt) ∧ r = xsCd [(3, 1)] n ∧ u = wK X kIsKept tt.1 hiLatest hiSize scBytes scTold scLength scFault scAt scNumber tt.2.1 tt.2.2.1 tt.2.2.2.1 tt.2.2.2.2.1 tt.2.2.2.2.2.1 tt.2.2.2.2.2.2.1 tt.2.2.2.2.2.2.2.1 tt.2.2.2.2.2.2.2.2.1 tt.2.2.2.2.2.2.2.2.2.1 tt.2.2.2.2.2.2.2.2.2.2.1 tt.2.2.2.2.2.2.2.2.2.2.2.1 tt.2.2.2.2.2.2.2.2.2.2.2.2.1 tt.2.2.2.2.2.2.2.2.2.2.2.2.2.1 tt.2.2.2.2.2.2.2.2.2.2.2.2.2.2.1 tt.2.2.2.2.2.2.2.2.2.2.2.2.2.2.2.1 tt.2.2.2.2.2.2.2.2.2.2.2.2.2.2.2.2.1 tt.2.2.2.2.2.2.2.2.2.2.2.2.2.2.2.2.2.1 tt.2.2.2.2.2.2.2.2.2.2.2.2.2.2.2.2.2.2.1 tt.2.2.2.2.2.2.2.2.2.2.2.2.2.2.2.2.2.2.2.1 tt.2.2.2.2.2.2.2.2.2.2.2.2.2.2.2.2.2.2.2.2.1 tt.2.2.2.2.2.2.2.2.2.2.2.2.2.2.2.2.2.2.2.2.2.1 tt.2.2.2.2.2.2.2.2.2.2.2.2.2.2.2.2.2.2.2.2.2.2.1 tt.2.2.2.2.2.2.2.2.2.2.2.2.2.2.2.2.2.2.2.2.2.2.2.1 tt.2.2.2.2.2.2.2.2.2.2.2.2.2.2.2.2.2.2.2.2.2.2.2.2.1 tt.2.2.2.2.2.2.2.2.2.2.2.2.2.2.2.2.2.2.2.2.2.2.2.2.2.1 tt.2.2.2.2.2.2.2.2.2.2.2.2.2.2.2.2.2.2.2.2.2.2.2.2.2.2.1 tt.2.2.2.2.2.2.2.2.2.2.2.2.2.2.2.2.2.2.2.2.2.2.2.2.2.2.2 grFar grQueue grQueued huX huY huSize huBestX huBestY S (xsOc X ou :: Rw)))) (fun _ _ _ => False) 1 6 (xsF X) := by
  refine xs_lmet RL (by decide) rfl (Nat.le_of_ble_eq_true rfl) ?_
  intro p e s m below meth c ls H locs C htab hP hD hS hr hlk hl
  have hx := C.1
  have hb := C.2.1
  have hl : lv_has ls 5 [(0, .ref (xsA X 0)), (1, .int a0), (2, .int a1), (3, .ref (xsA X 131))] := hl
  refine lv_aload_n hx hb dL_status_0 rfl (lv_at hl 3 rfl) ?_
  refine lv_iconst (v := 0) hx hb dL_status_1 (by decide) ?_
  refine lv_aload_n hx hb dL_status_2 rfl (lv_at hl 0 rfl) ?_
  refine lv_iload_n hx hb dL_status_3 rfl (lv_at hl 1 rfl) ?_
  refine lv_iload_n hx hb dL_status_4 rfl (lv_at hl 2 rfl) ?_
  refine xs_xcalli hS (xs_xrunV (As := [.int a0, .int a1]) (rest := [.int 0, .ref (xsA X 131)]) C (mX10_status l hst hs_0 hf) w_1189 w_1190 w_1191 w_105 w_1192 hd_X10_status ⟨rfl, rfl, Nat.le_of_ble_eq_true rfl, Nat.le_of_ble_eq_true rfl, Nat.le_of_ble_eq_true rfl, Nat.le_of_ble_eq_true rfl⟩ hP hD hS lk_X10 rfl hl.1 rfl (Nat.le_of_ble_eq_true rfl) dL_status_5) (fun n u q H locs hpx hP hD hS hq => ?_) (fun r u H locs hp hP hD hS => ?_)
  · obtain ⟨tx, e1, e2⟩ := hpx
    subst e2
    obtain ⟨ce, hq1, hq2, hq3⟩ := hq
    have en := hn n tx e1
    subst en
    refine vx_catch (own := RL) (name := "java/lang/IndexOutOfBoundsException") (E := xsEx 3) C.2.2.2.1 [] ({ startPc := 0, endPc := 10, handlerPc := 13, catchType := 25 } : ExceptionTableEntry) [] htab (fun z hz => absurd hz List.not_mem_nil) (by decide) (by decide) (xs_kts C _ w_1013) (xs_bd3 (n := 3) C _ List.mem_cons_self) hq1 hq2 hq3 ?_
    refine lv_astore (lv' := [(4, .ref q), (0, .ref (xsA X 0)), (1, .int a0), (2, .int a1), (3, .ref (xsA X 131))]) hx hb dL_status_13 hl (by decide) rfl (fun ls hl => ?_)
    refine lv_iconst (v := 1) hx hb dL_status_15 (by decide) ?_
    exact xs_xiret C hr hlk (Or.inr ⟨_, _, e1, rfl, rfl⟩) hP hD hS (Nat.le_of_ble_eq_true rfl) (Nat.le_of_ble_eq_true rfl) dL_status_16
  · obtain ⟨tx, e1, e2, e3⟩ := hp
    subst e3
    subst e2
    refine lv_i2l hx hb dL_status_8 rfl ?_
    refine xs_lout C hP hD hS dL_status_9 (fun H locs hP hD hS => ?_)
    refine lv_goto (tgt := 17) hx hb dL_status_10 (by decide) ?_
    refine lv_iconst (v := 0) hx hb dL_status_17 (by decide) ?_
    exact xs_xiret C hr hlk (Or.inl ⟨_, e1, rfl, rfl⟩) hP hD hS (Nat.le_of_ble_eq_true rfl) (Nat.le_of_ble_eq_true rfl) dL_status_18
set_option maxRecDepth 100000 in
set_option maxHeartbeats 8000000 in
theorem mL_rank (l : Launch) (hst : l.stackTraces = false) {X : xsX} {kIsKept kIsStale hiLatest hiSize scLength scFault scAt scNumber piSegmentsNow enKind enFromX enFromY enToX enToY tiMeetingPairs tiAlongPairs tiSize evSize evCrossings evSegmentsNow grEdges grQueued huSize huBestX huBestY : Int32} {scBytes scTold tiTouching tiLyingAlong evBundle evCrossingOf evEventOf evLeftEvent evRightEvent grDegree grFar grQueue huX huY : Nat → Int32} {enX enY enLower : Int64} {evX evY evLower : Nat → Int64} {S : Nat → xsV} {Rw : va_W} {g0Lx g0Ly g0Rx g0Ry g0Ti : Nat → Int32} {g0Sz : Int32} (hs_0 : S 0 = (g0Lx, g0Ly, g0Rx, g0Ry, g0Ti, g0Sz)) {a0 : Int32} {a1 : Int32} {out : (Int32 × Int32 × Int32 × Int32 × Int64 × Int64 × Int64 × Int32 × Int32 × Int32 × Int32 × (Nat → Int32) × (Nat → Int32) × Int32 × Int32 × Int32 × (Nat → Int64) × (Nat → Int64) × (Nat → Int64) × (Nat → Int32) × (Nat → Int32) × (Nat → Int32) × (Nat → Int32) × (Nat → Int32) × Int32 × Int32 × Int32 × (Nat → Int32) × Int32) ⊕ (Nat × (Int32 × Int32 × Int32 × Int64 × Int64 × Int64 × Int32 × Int32 × Int32 × Int32 × (Nat → Int32) × (Nat → Int32) × Int32 × Int32 × Int32 × (Nat → Int64) × (Nat → Int64) × (Nat → Int64) × (Nat → Int32) × (Nat → Int32) × (Nat → Int32) × (Nat → Int32) × (Nat → Int32) × Int32 × Int32 × Int32 × (Nat → Int32) × Int32))} {ou : Nat → Int64} (hf : fX10_rank kIsStale piSegmentsNow enKind enX enY enLower enFromX enFromY enToX enToY tiTouching tiLyingAlong tiMeetingPairs tiAlongPairs tiSize evX evY evLower evBundle evCrossingOf evEventOf evLeftEvent evRightEvent evSize evCrossings evSegmentsNow grDegree grEdges g0Lx g0Ly g0Rx g0Ry g0Sz a0 a1 = some out) (hn : ∀ n tt, out = .inr (n, tt) → n = 3) : vx_Met l yL_rank (Cond.codeWith yL_rank cL_rank 5 (some .int) [(0, 10, 13, 25)] :: xsGt) { frames := 9, cells := 2, slots := 12, locals := 176 } (xsP X (wK X kIsKept kIsStale hiLatest hiSize scBytes scTold scLength scFault scAt scNumber piSegmentsNow enKind enX enY enLower enFromX enFromY enToX enToY tiTouching tiLyingAlong tiMeetingPairs tiAlongPairs tiSize evX evY evLower evBundle evCrossingOf evEventOf evLeftEvent evRightEvent evSize evCrossings evSegmentsNow grDegree grEdges grFar grQueue grQueued huX huY huSize huBestX huBestY S (xsOc X ou :: Rw)) [.ref (xsA X 0), .int a0, .int a1, .ref (xsA X 131)]) (xsXi X (fun r u => (∃ tt, out = .inl tt ∧ r = 0 ∧ u = wK X kIsKept tt.2.1 hiLatest hiSize scBytes scTold scLength scFault scAt scNumber tt.2.2.1 tt.2.2.2.1 tt.2.2.2.2.1 tt.2.2.2.2.2.1 tt.2.2.2.2.2.2.1 tt.2.2.2.2.2.2.2.1 tt.2.2.2.2.2.2.2.2.1 tt.2.2.2.2.2.2.2.2.2.1 tt.2.2.2.2.2.2.2.2.2.2.1 tt.2.2.2.2.2.2.2.2.2.2.2.1 tt.2.2.2.2.2.2.2.2.2.2.2.2.1 tt.2.2.2.2.2.2.2.2.2.2.2.2.2.1 tt.2.2.2.2.2.2.2.2.2.2.2.2.2.2.1 tt.2.2.2.2.2.2.2.2.2.2.2.2.2.2.2.1 tt.2.2.2.2.2.2.2.2.2.2.2.2.2.2.2.2.1 tt.2.2.2.2.2.2.2.2.2.2.2.2.2.2.2.2.2.1 tt.2.2.2.2.2.2.2.2.2.2.2.2.2.2.2.2.2.2.1 tt.2.2.2.2.2.2.2.2.2.2.2.2.2.2.2.2.2.2.2.1 tt.2.2.2.2.2.2.2.2.2.2.2.2.2.2.2.2.2.2.2.2.1 tt.2.2.2.2.2.2.2.2.2.2.2.2.2.2.2.2.2.2.2.2.2.1 tt.2.2.2.2.2.2.2.2.2.2.2.2.2.2.2.2.2.2.2.2.2.2.1 tt.2.2.2.2.2.2.2.2.2.2.2.2.2.2.2.2.2.2.2.2.2.2.2.1 tt.2.2.2.2.2.2.2.2.2.2.2.2.2.2.2.2.2.2.2.2.2.2.2.2.1 tt.2.2.2.2.2.2.2.2.2.2.2.2.2.2.2.2.2.2.2.2.2.2.2.2.2.1 tt.2.2.2.2.2.2.2.2.2.2.2.2.2.2.2.2.2.2.2.2.2.2.2.2.2.2.1 tt.2.2.2.2.2.2.2.2.2.2.2.2.2.2.2.2.2.2.2.2.2.2.2.2.2.2.2.1 tt.2.2.2.2.2.2.2.2.2.2.2.2.2.2.2.2.2.2.2.2.2.2.2.2.2.2.2.2 grFar grQueue grQueued huX huY huSize huBestX huBestY S (xsOc X (vp_updL ou 0 tt.1.toInt64) :: Rw)) ∨ (∃ n tt, out = .inr (n, tt) ∧ r = xsCd [(3, 1)] n ∧ u = wK X kIsKept tt.1 hiLatest hiSize scBytes scTold scLength scFault scAt scNumber tt.2.1 tt.2.2.1 tt.2.2.2.1 tt.2.2.2.2.1 tt.2.2.2.2.2.1 tt.2.2.2.2.2.2.1 tt.2.2.2.2.2.2.2.1 tt.2.2.2.2.2.2.2.2.1 tt.2.2.2.2.2.2.2.2.2.1 tt.2.2.2.2.2.2.2.2.2.2.1 tt.2.2.2.2.2.2.2.2.2.2.2.1 tt.2.2.2.2.2.2.2.2.2.2.2.2.1 tt.2.2.2.2.2.2.2.2.2.2.2.2.2.1 tt.2.2.2.2.2.2.2.2.2.2.2.2.2.2.1 tt.2.2.2.2.2.2.2.2.2.2.2.2.2.2.2.1 tt.2.2.2.2.2.2.2.2.2.2.2.2.2.2.2.2.1 tt.2.2.2.2.2.2.2.2.2.2.2.2.2.2.2.2.2.1 tt.2.2.2.2.2.2.2.2.2.2.2.2.2.2.2.2.2.2.1 tt.2.2.2.2.2.2.2.2.2.2.2.2.2.2.2.2.2.2.2.1 tt.2.2.2.2.2.2.2.2.2.2.2.2.2.2.2.2.2.2.2.2.1 tt.2.2.2.2.2.2.2.2.2.2.2.2.2.2.2.2.2.2.2.2.2.1 tt.2.2.2.2.2.2.2.2.2.2.2.2.2.2.2.2.2.2.2.2.2.2.1 tt.2.2.2.2.2.2.2.2.2.2.2.2.2.2.2.2.2.2.2.2.2.2.2.1 tt.2.2.2.2.2.2.2.2.2.2.2.2.2.2.2.2.2.2.2.2.2.2.2.2.1 tt.2.2.2.2.2.2.2.2.2.2.2.2.2.2.2.2.2.2.2.2.2.2.2.2.2.1 tt.2.2.2.2.2.2.2.2.2.2.2.2.2.2.2.2.2.2.2.2.2.2.2.2.2.2.1 tt.2.2.2.2.2.2.2.2.2.2.2.2.2.2.2.2.2.2.2.2.2.2.2.2.2.2.2 grFar grQueue grQueued huX huY huSize huBestX huBestY S (xsOc X ou :: Rw)))) (fun _ _ _ => False) 2 12 (xsF X) := by
  refine xs_lmet RL (by decide) rfl (Nat.le_of_ble_eq_true rfl) ?_
  intro p e s m below meth c ls H locs C htab hP hD hS hr hlk hl
  have hx := C.1
  have hb := C.2.1
  have hl : lv_has ls 5 [(0, .ref (xsA X 0)), (1, .int a0), (2, .int a1), (3, .ref (xsA X 131))] := hl
  refine lv_aload_n hx hb dL_rank_0 rfl (lv_at hl 3 rfl) ?_
  refine lv_iconst (v := 0) hx hb dL_rank_1 (by decide) ?_
  refine lv_aload_n hx hb dL_rank_2 rfl (lv_at hl 0 rfl) ?_
  refine lv_iload_n hx hb dL_rank_3 rfl (lv_at hl 1 rfl) ?_
  refine lv_iload_n hx hb dL_rank_4 rfl (lv_at hl 2 rfl) ?_
  refine xs_xcalli hS (xs_xrunV (As := [.int a0, .int a1]) (rest := [.int 0, .ref (xsA X 131)]) C (mX10_rank l hst hs_0 hf) w_1201 w_1202 w_1203 w_105 w_1204 hd_X10_rank ⟨rfl, rfl, Nat.le_of_ble_eq_true rfl, Nat.le_of_ble_eq_true rfl, Nat.le_of_ble_eq_true rfl, Nat.le_of_ble_eq_true rfl⟩ hP hD hS lk_X10 rfl hl.1 rfl (Nat.le_of_ble_eq_true rfl) dL_rank_5) (fun n u q H locs hpx hP hD hS hq => ?_) (fun r u H locs hp hP hD hS => ?_)
  · obtain ⟨tx, e1, e2⟩ := hpx
    subst e2
    obtain ⟨ce, hq1, hq2, hq3⟩ := hq
    have en := hn n tx e1
    subst en
    refine vx_catch (own := RL) (name := "java/lang/IndexOutOfBoundsException") (E := xsEx 3) C.2.2.2.1 [] ({ startPc := 0, endPc := 10, handlerPc := 13, catchType := 25 } : ExceptionTableEntry) [] htab (fun z hz => absurd hz List.not_mem_nil) (by decide) (by decide) (xs_kts C _ w_1013) (xs_bd3 (n := 3) C _ List.mem_cons_self) hq1 hq2 hq3 ?_
    refine lv_astore (lv' := [(4, .ref q), (0, .ref (xsA X 0)), (1, .int a0), (2, .int a1), (3, .ref (xsA X 131))]) hx hb dL_rank_13 hl (by decide) rfl (fun ls hl => ?_)
    refine lv_iconst (v := 1) hx hb dL_rank_15 (by decide) ?_
    exact xs_xiret C hr hlk (Or.inr ⟨_, _, e1, rfl, rfl⟩) hP hD hS (Nat.le_of_ble_eq_true rfl) (Nat.le_of_ble_eq_true rfl) dL_rank_16
  · obtain ⟨tx, e1, e2, e3⟩ := hp
    subst e3
    subst e2
    refine lv_i2l hx hb dL_rank_8 rfl ?_
    refine xs_lout C hP hD hS dL_rank_9 (fun H locs hP hD hS => ?_)
    refine lv_goto (tgt := 17) hx hb dL_rank_10 (by decide) ?_
    refine lv_iconst (v := 0) hx hb dL_rank_17 (by decide) ?_
    exact xs_xiret C hr hlk (Or.inl ⟨_, e1, rfl, rfl⟩) hP hD hS (Nat.le_of_ble_eq_true rfl) (Nat.le_of_ble_eq_true rfl) dL_rank_18
set_option maxRecDepth 100000 in
set_option maxHeartbeats 8000000 in
theorem mL_road (l : Launch) (hst : l.stackTraces = false) {X : xsX} {kIsKept kIsStale hiLatest hiSize scLength scFault scAt scNumber piSegmentsNow enKind enFromX enFromY enToX enToY tiMeetingPairs tiAlongPairs tiSize evSize evCrossings evSegmentsNow grEdges grQueued huSize huBestX huBestY : Int32} {scBytes scTold tiTouching tiLyingAlong evBundle evCrossingOf evEventOf evLeftEvent evRightEvent grDegree grFar grQueue huX huY : Nat → Int32} {enX enY enLower : Int64} {evX evY evLower : Nat → Int64} {S : Nat → xsV} {Rw : va_W} {g0Lx g0Ly g0Rx g0Ry g0Ti : Nat → Int32} {g0Sz : Int32} (hs_0 : S 0 = (g0Lx, g0Ly, g0Rx, g0Ry, g0Ti, g0Sz)) {a0 : Int32} {a1 : Int32} {out : (Int32 × Int32 × Int32 × Int32 × Int64 × Int64 × Int64 × Int32 × Int32 × Int32 × Int32 × (Nat → Int32) × (Nat → Int32) × Int32 × Int32 × Int32 × (Nat → Int64) × (Nat → Int64) × (Nat → Int64) × (Nat → Int32) × (Nat → Int32) × (Nat → Int32) × (Nat → Int32) × (Nat → Int32) × Int32 × Int32 × Int32 × (Nat → Int32) × Int32 × (Nat → Int32) × (Nat → Int32) × Int32) ⊕ (Nat × (Int32 × Int32 × Int32 × Int64 × Int64 × Int64 × Int32 × Int32 × Int32 × Int32 × (Nat → Int32) × (Nat → Int32) × Int32 × Int32 × Int32 × (Nat → Int64) × (Nat → Int64) × (Nat → Int64) × (Nat → Int32) × (Nat → Int32) × (Nat → Int32) × (Nat → Int32) × (Nat → Int32) × Int32 × Int32 × Int32 × (Nat → Int32) × Int32 × (Nat → Int32) × (Nat → Int32) × Int32))} {ou : Nat → Int64} (hf : fX10_road kIsStale piSegmentsNow enKind enX enY enLower enFromX enFromY enToX enToY tiTouching tiLyingAlong tiMeetingPairs tiAlongPairs tiSize evX evY evLower evBundle evCrossingOf evEventOf evLeftEvent evRightEvent evSize evCrossings evSegmentsNow grDegree grEdges grFar grQueue grQueued g0Lx g0Ly g0Rx g0Ry g0Sz a0 a1 = some out) (hn : ∀ n tt, out = .inr (n, tt) → n = 3) : vx_Met l yL_road (Cond.codeWith yL_road cL_road 5 (some .int) [(0, 10, 13, 25)] :: xsGt) { frames := 8, cells := 2, slots := 12, locals := 176 } (xsP X (wK X kIsKept kIsStale hiLatest hiSize scBytes scTold scLength scFault scAt scNumber piSegmentsNow enKind enX enY enLower enFromX enFromY enToX enToY tiTouching tiLyingAlong tiMeetingPairs tiAlongPairs tiSize evX evY evLower evBundle evCrossingOf evEventOf evLeftEvent evRightEvent evSize evCrossings evSegmentsNow grDegree grEdges grFar grQueue grQueued huX huY huSize huBestX huBestY S (xsOc X ou :: Rw)) [.ref (xsA X 0), .int a0, .int a1, .ref (xsA X 131)]) (xsXi X (fun r u => (∃ tt, out = .inl tt ∧ r = 0 ∧ u = wK X kIsKept tt.2.1 hiLatest hiSize scBytes scTold scLength scFault scAt scNumber tt.2.2.1 tt.2.2.2.1 tt.2.2.2.2.1 tt.2.2.2.2.2.1 tt.2.2.2.2.2.2.1 tt.2.2.2.2.2.2.2.1 tt.2.2.2.2.2.2.2.2.1 tt.2.2.2.2.2.2.2.2.2.1 tt.2.2.2.2.2.2.2.2.2.2.1 tt.2.2.2.2.2.2.2.2.2.2.2.1 tt.2.2.2.2.2.2.2.2.2.2.2.2.1 tt.2.2.2.2.2.2.2.2.2.2.2.2.2.1 tt.2.2.2.2.2.2.2.2.2.2.2.2.2.2.1 tt.2.2.2.2.2.2.2.2.2.2.2.2.2.2.2.1 tt.2.2.2.2.2.2.2.2.2.2.2.2.2.2.2.2.1 tt.2.2.2.2.2.2.2.2.2.2.2.2.2.2.2.2.2.1 tt.2.2.2.2.2.2.2.2.2.2.2.2.2.2.2.2.2.2.1 tt.2.2.2.2.2.2.2.2.2.2.2.2.2.2.2.2.2.2.2.1 tt.2.2.2.2.2.2.2.2.2.2.2.2.2.2.2.2.2.2.2.2.1 tt.2.2.2.2.2.2.2.2.2.2.2.2.2.2.2.2.2.2.2.2.2.1 tt.2.2.2.2.2.2.2.2.2.2.2.2.2.2.2.2.2.2.2.2.2.2.1 tt.2.2.2.2.2.2.2.2.2.2.2.2.2.2.2.2.2.2.2.2.2.2.2.1 tt.2.2.2.2.2.2.2.2.2.2.2.2.2.2.2.2.2.2.2.2.2.2.2.2.1 tt.2.2.2.2.2.2.2.2.2.2.2.2.2.2.2.2.2.2.2.2.2.2.2.2.2.1 tt.2.2.2.2.2.2.2.2.2.2.2.2.2.2.2.2.2.2.2.2.2.2.2.2.2.2.1 tt.2.2.2.2.2.2.2.2.2.2.2.2.2.2.2.2.2.2.2.2.2.2.2.2.2.2.2.1 tt.2.2.2.2.2.2.2.2.2.2.2.2.2.2.2.2.2.2.2.2.2.2.2.2.2.2.2.2.1 tt.2.2.2.2.2.2.2.2.2.2.2.2.2.2.2.2.2.2.2.2.2.2.2.2.2.2.2.2.2.1 tt.2.2.2.2.2.2.2.2.2.2.2.2.2.2.2.2.2.2.2.2.2.2.2.2.2.2.2.2.2.2.1 tt.2.2.2.2.2.2.2.2.2.2.2.2.2.2.2.2.2.2.2.2.2.2.2.2.2.2.2.2.2.2.2 huX huY huSize huBestX huBestY S (xsOc X (vp_updL ou 0 tt.1.toInt64) :: Rw)) ∨ (∃ n tt, out = .inr (n, tt) ∧ r = xsCd [(3, 1)] n ∧ u = wK X kIsKept tt.1 hiLatest hiSize scBytes scTold scLength scFault scAt scNumber tt.2.1 tt.2.2.1 tt.2.2.2.1 tt.2.2.2.2.1 tt.2.2.2.2.2.1 tt.2.2.2.2.2.2.1 tt.2.2.2.2.2.2.2.1 tt.2.2.2.2.2.2.2.2.1 tt.2.2.2.2.2.2.2.2.2.1 tt.2.2.2.2.2.2.2.2.2.2.1 tt.2.2.2.2.2.2.2.2.2.2.2.1 tt.2.2.2.2.2.2.2.2.2.2.2.2.1 tt.2.2.2.2.2.2.2.2.2.2.2.2.2.1 tt.2.2.2.2.2.2.2.2.2.2.2.2.2.2.1 tt.2.2.2.2.2.2.2.2.2.2.2.2.2.2.2.1 tt.2.2.2.2.2.2.2.2.2.2.2.2.2.2.2.2.1 tt.2.2.2.2.2.2.2.2.2.2.2.2.2.2.2.2.2.1 tt.2.2.2.2.2.2.2.2.2.2.2.2.2.2.2.2.2.2.1 tt.2.2.2.2.2.2.2.2.2.2.2.2.2.2.2.2.2.2.2.1 tt.2.2.2.2.2.2.2.2.2.2.2.2.2.2.2.2.2.2.2.2.1 tt.2.2.2.2.2.2.2.2.2.2.2.2.2.2.2.2.2.2.2.2.2.1 tt.2.2.2.2.2.2.2.2.2.2.2.2.2.2.2.2.2.2.2.2.2.2.1 tt.2.2.2.2.2.2.2.2.2.2.2.2.2.2.2.2.2.2.2.2.2.2.2.1 tt.2.2.2.2.2.2.2.2.2.2.2.2.2.2.2.2.2.2.2.2.2.2.2.2.1 tt.2.2.2.2.2.2.2.2.2.2.2.2.2.2.2.2.2.2.2.2.2.2.2.2.2.1 tt.2.2.2.2.2.2.2.2.2.2.2.2.2.2.2.2.2.2.2.2.2.2.2.2.2.2.1 tt.2.2.2.2.2.2.2.2.2.2.2.2.2.2.2.2.2.2.2.2.2.2.2.2.2.2.2.1 tt.2.2.2.2.2.2.2.2.2.2.2.2.2.2.2.2.2.2.2.2.2.2.2.2.2.2.2.2.1 tt.2.2.2.2.2.2.2.2.2.2.2.2.2.2.2.2.2.2.2.2.2.2.2.2.2.2.2.2.2.1 tt.2.2.2.2.2.2.2.2.2.2.2.2.2.2.2.2.2.2.2.2.2.2.2.2.2.2.2.2.2.2 huX huY huSize huBestX huBestY S (xsOc X ou :: Rw)))) (fun _ _ _ => False) 2 12 (xsF X) := by
  refine xs_lmet RL (by decide) rfl (Nat.le_of_ble_eq_true rfl) ?_
  intro p e s m below meth c ls H locs C htab hP hD hS hr hlk hl
  have hx := C.1
  have hb := C.2.1
  have hl : lv_has ls 5 [(0, .ref (xsA X 0)), (1, .int a0), (2, .int a1), (3, .ref (xsA X 131))] := hl
  refine lv_aload_n hx hb dL_road_0 rfl (lv_at hl 3 rfl) ?_
  refine lv_iconst (v := 0) hx hb dL_road_1 (by decide) ?_
  refine lv_aload_n hx hb dL_road_2 rfl (lv_at hl 0 rfl) ?_
  refine lv_iload_n hx hb dL_road_3 rfl (lv_at hl 1 rfl) ?_
  refine lv_iload_n hx hb dL_road_4 rfl (lv_at hl 2 rfl) ?_
  refine xs_xcalli hS (xs_xrunV (As := [.int a0, .int a1]) (rest := [.int 0, .ref (xsA X 131)]) C (mX10_road l hst hs_0 hf) w_1208 w_1209 w_1210 w_105 w_1211 hd_X10_road ⟨rfl, rfl, Nat.le_of_ble_eq_true rfl, Nat.le_of_ble_eq_true rfl, Nat.le_of_ble_eq_true rfl, Nat.le_of_ble_eq_true rfl⟩ hP hD hS lk_X10 rfl hl.1 rfl (Nat.le_of_ble_eq_true rfl) dL_road_5) (fun n u q H locs hpx hP hD hS hq => ?_) (fun r u H locs hp hP hD hS => ?_)
  · obtain ⟨tx, e1, e2⟩ := hpx
    subst e2
    obtain ⟨ce, hq1, hq2, hq3⟩ := hq
    have en := hn n tx e1
    subst en
    refine vx_catch (own := RL) (name := "java/lang/IndexOutOfBoundsException") (E := xsEx 3) C.2.2.2.1 [] ({ startPc := 0, endPc := 10, handlerPc := 13, catchType := 25 } : ExceptionTableEntry) [] htab (fun z hz => absurd hz List.not_mem_nil) (by decide) (by decide) (xs_kts C _ w_1013) (xs_bd3 (n := 3) C _ List.mem_cons_self) hq1 hq2 hq3 ?_
    refine lv_astore (lv' := [(4, .ref q), (0, .ref (xsA X 0)), (1, .int a0), (2, .int a1), (3, .ref (xsA X 131))]) hx hb dL_road_13 hl (by decide) rfl (fun ls hl => ?_)
    refine lv_iconst (v := 1) hx hb dL_road_15 (by decide) ?_
    exact xs_xiret C hr hlk (Or.inr ⟨_, _, e1, rfl, rfl⟩) hP hD hS (Nat.le_of_ble_eq_true rfl) (Nat.le_of_ble_eq_true rfl) dL_road_16
  · obtain ⟨tx, e1, e2, e3⟩ := hp
    subst e3
    subst e2
    refine lv_i2l hx hb dL_road_8 rfl ?_
    refine xs_lout C hP hD hS dL_road_9 (fun H locs hP hD hS => ?_)
    refine lv_goto (tgt := 17) hx hb dL_road_10 (by decide) ?_
    refine lv_iconst (v := 0) hx hb dL_road_17 (by decide) ?_
    exact xs_xiret C hr hlk (Or.inl ⟨_, e1, rfl, rfl⟩) hP hD hS (Nat.le_of_ble_eq_true rfl) (Nat.le_of_ble_eq_true rfl) dL_road_18
set_option maxRecDepth 100000 in
set_option maxHeartbeats 8000000 in
theorem mL_tied (l : Launch) (hst : l.stackTraces = false) {X : xsX} {kIsKept kIsStale hiLatest hiSize scLength scFault scAt scNumber piSegmentsNow enKind enFromX enFromY enToX enToY tiMeetingPairs tiAlongPairs tiSize evSize evCrossings evSegmentsNow grEdges grQueued huSize huBestX huBestY : Int32} {scBytes scTold tiTouching tiLyingAlong evBundle evCrossingOf evEventOf evLeftEvent evRightEvent grDegree grFar grQueue huX huY : Nat → Int32} {enX enY enLower : Int64} {evX evY evLower : Nat → Int64} {S : Nat → xsV} {Rw : va_W} {g0Lx g0Ly g0Rx g0Ry g0Ti : Nat → Int32} {g0Sz : Int32} (hs_0 : S 0 = (g0Lx, g0Ly, g0Rx, g0Ry, g0Ti, g0Sz)) {a0 : Int32} {out : (Int32 × Int32 × Int32 × Int32 × Int64 × Int64 × Int64 × Int32 × Int32 × Int32 × Int32 × (Nat → Int32) × (Nat → Int32) × Int32 × Int32 × Int32 × (Nat → Int64) × (Nat → Int64) × (Nat → Int64) × (Nat → Int32) × (Nat → Int32) × (Nat → Int32) × (Nat → Int32) × (Nat → Int32) × Int32 × Int32 × Int32 × (Nat → Int32) × Int32) ⊕ (Nat × (Int32 × Int32 × Int32 × Int64 × Int64 × Int64 × Int32 × Int32 × Int32 × Int32 × (Nat → Int32) × (Nat → Int32) × Int32 × Int32 × Int32 × (Nat → Int64) × (Nat → Int64) × (Nat → Int64) × (Nat → Int32) × (Nat → Int32) × (Nat → Int32) × (Nat → Int32) × (Nat → Int32) × Int32 × Int32 × Int32 × (Nat → Int32) × Int32))} {ou : Nat → Int64} (hf : fX10_tied kIsStale piSegmentsNow enKind enX enY enLower enFromX enFromY enToX enToY tiTouching tiLyingAlong tiMeetingPairs tiAlongPairs tiSize evX evY evLower evBundle evCrossingOf evEventOf evLeftEvent evRightEvent evSize evCrossings evSegmentsNow grDegree grEdges g0Lx g0Ly g0Rx g0Ry g0Sz a0 = some out) (hn : ∀ n tt, out = .inr (n, tt) → n = 3) : vx_Met l yL_tied (Cond.codeWith yL_tied cL_tied 4 (some .int) [(0, 9, 12, 25)] :: xsGt) { frames := 9, cells := 1, slots := 6, locals := 174 } (xsP X (wK X kIsKept kIsStale hiLatest hiSize scBytes scTold scLength scFault scAt scNumber piSegmentsNow enKind enX enY enLower enFromX enFromY enToX enToY tiTouching tiLyingAlong tiMeetingPairs tiAlongPairs tiSize evX evY evLower evBundle evCrossingOf evEventOf evLeftEvent evRightEvent evSize evCrossings evSegmentsNow grDegree grEdges grFar grQueue grQueued huX huY huSize huBestX huBestY S (xsOc X ou :: Rw)) [.ref (xsA X 0), .int a0, .ref (xsA X 131)]) (xsXi X (fun r u => (∃ tt, out = .inl tt ∧ r = 0 ∧ u = wK X kIsKept tt.2.1 hiLatest hiSize scBytes scTold scLength scFault scAt scNumber tt.2.2.1 tt.2.2.2.1 tt.2.2.2.2.1 tt.2.2.2.2.2.1 tt.2.2.2.2.2.2.1 tt.2.2.2.2.2.2.2.1 tt.2.2.2.2.2.2.2.2.1 tt.2.2.2.2.2.2.2.2.2.1 tt.2.2.2.2.2.2.2.2.2.2.1 tt.2.2.2.2.2.2.2.2.2.2.2.1 tt.2.2.2.2.2.2.2.2.2.2.2.2.1 tt.2.2.2.2.2.2.2.2.2.2.2.2.2.1 tt.2.2.2.2.2.2.2.2.2.2.2.2.2.2.1 tt.2.2.2.2.2.2.2.2.2.2.2.2.2.2.2.1 tt.2.2.2.2.2.2.2.2.2.2.2.2.2.2.2.2.1 tt.2.2.2.2.2.2.2.2.2.2.2.2.2.2.2.2.2.1 tt.2.2.2.2.2.2.2.2.2.2.2.2.2.2.2.2.2.2.1 tt.2.2.2.2.2.2.2.2.2.2.2.2.2.2.2.2.2.2.2.1 tt.2.2.2.2.2.2.2.2.2.2.2.2.2.2.2.2.2.2.2.2.1 tt.2.2.2.2.2.2.2.2.2.2.2.2.2.2.2.2.2.2.2.2.2.1 tt.2.2.2.2.2.2.2.2.2.2.2.2.2.2.2.2.2.2.2.2.2.2.1 tt.2.2.2.2.2.2.2.2.2.2.2.2.2.2.2.2.2.2.2.2.2.2.2.1 tt.2.2.2.2.2.2.2.2.2.2.2.2.2.2.2.2.2.2.2.2.2.2.2.2.1 tt.2.2.2.2.2.2.2.2.2.2.2.2.2.2.2.2.2.2.2.2.2.2.2.2.2.1 tt.2.2.2.2.2.2.2.2.2.2.2.2.2.2.2.2.2.2.2.2.2.2.2.2.2.2.1 tt.2.2.2.2.2.2.2.2.2.2.2.2.2.2.2.2.2.2.2.2.2.2.2.2.2.2.2.1 tt.2.2.2.2.2.2.2.2.2.2.2.2.2.2.2.2.2.2.2.2.2.2.2.2.2.2.2.2 grFar grQueue grQueued huX huY huSize huBestX huBestY S (xsOc X (vp_updL ou 0 tt.1.toInt64) :: Rw)) ∨ (∃ n tt, out = .inr (n, tt) ∧ r = xsCd [(3, 1)] n ∧ u = wK X kIsKept tt.1 hiLatest hiSize scBytes scTold scLength scFault scAt scNumber tt.2.1 tt.2.2.1 tt.2.2.2.1 tt.2.2.2.2.1 tt.2.2.2.2.2.1 tt.2.2.2.2.2.2.1 tt.2.2.2.2.2.2.2.1 tt.2.2.2.2.2.2.2.2.1 tt.2.2.2.2.2.2.2.2.2.1 tt.2.2.2.2.2.2.2.2.2.2.1 tt.2.2.2.2.2.2.2.2.2.2.2.1 tt.2.2.2.2.2.2.2.2.2.2.2.2.1 tt.2.2.2.2.2.2.2.2.2.2.2.2.2.1 tt.2.2.2.2.2.2.2.2.2.2.2.2.2.2.1 tt.2.2.2.2.2.2.2.2.2.2.2.2.2.2.2.1 tt.2.2.2.2.2.2.2.2.2.2.2.2.2.2.2.2.1 tt.2.2.2.2.2.2.2.2.2.2.2.2.2.2.2.2.2.1 tt.2.2.2.2.2.2.2.2.2.2.2.2.2.2.2.2.2.2.1 tt.2.2.2.2.2.2.2.2.2.2.2.2.2.2.2.2.2.2.2.1 tt.2.2.2.2.2.2.2.2.2.2.2.2.2.2.2.2.2.2.2.2.1 tt.2.2.2.2.2.2.2.2.2.2.2.2.2.2.2.2.2.2.2.2.2.1 tt.2.2.2.2.2.2.2.2.2.2.2.2.2.2.2.2.2.2.2.2.2.2.1 tt.2.2.2.2.2.2.2.2.2.2.2.2.2.2.2.2.2.2.2.2.2.2.2.1 tt.2.2.2.2.2.2.2.2.2.2.2.2.2.2.2.2.2.2.2.2.2.2.2.2.1 tt.2.2.2.2.2.2.2.2.2.2.2.2.2.2.2.2.2.2.2.2.2.2.2.2.2.1 tt.2.2.2.2.2.2.2.2.2.2.2.2.2.2.2.2.2.2.2.2.2.2.2.2.2.2.1 tt.2.2.2.2.2.2.2.2.2.2.2.2.2.2.2.2.2.2.2.2.2.2.2.2.2.2.2 grFar grQueue grQueued huX huY huSize huBestX huBestY S (xsOc X ou :: Rw)))) (fun _ _ _ => False) 1 6 (xsF X) := by
  refine xs_lmet RL (by decide) rfl (Nat.le_of_ble_eq_true rfl) ?_
  intro p e s m below meth c ls H locs C htab hP hD hS hr hlk hl
  have hx := C.1
  have hb := C.2.1
  have hl : lv_has ls 4 [(0, .ref (xsA X 0)), (1, .int a0), (2, .ref (xsA X 131))] := hl
  refine lv_aload_n hx hb dL_tied_0 rfl (lv_at hl 2 rfl) ?_
  refine lv_iconst (v := 0) hx hb dL_tied_1 (by decide) ?_
  refine lv_aload_n hx hb dL_tied_2 rfl (lv_at hl 0 rfl) ?_
  refine lv_iload_n hx hb dL_tied_3 rfl (lv_at hl 1 rfl) ?_
  refine xs_xcalli hS (xs_xrunV (As := [.int a0]) (rest := [.int 0, .ref (xsA X 131)]) C (mX10_tied l hst hs_0 hf) w_1227 w_1228 w_1229 w_105 w_1230 hd_X10_tied ⟨rfl, rfl, Nat.le_of_ble_eq_true rfl, Nat.le_of_ble_eq_true rfl, Nat.le_of_ble_eq_true rfl, Nat.le_of_ble_eq_true rfl⟩ hP hD hS lk_X10 rfl hl.1 rfl (Nat.le_of_ble_eq_true rfl) dL_tied_4) (fun n u q H locs hpx hP hD hS hq => ?_) (fun r u H locs hp hP hD hS => ?_)
  · obtain ⟨tx, e1, e2⟩ := hpx
    subst e2
    obtain ⟨ce, hq1, hq2, hq3⟩ := hq
    have en := hn n tx e1
    subst en
    refine vx_catch (own := RL) (name := "java/lang/IndexOutOfBoundsException") (E := xsEx 3) C.2.2.2.1 [] ({ startPc := 0, endPc := 9, handlerPc := 12, catchType := 25 } : ExceptionTableEntry) [] htab (fun z hz => absurd hz List.not_mem_nil) (by decide) (by decide) (xs_kts C _ w_1013) (xs_bd3 (n := 3) C _ List.mem_cons_self) hq1 hq2 hq3 ?_
    refine lv_astore_n (lv' := [(3, .ref q), (0, .ref (xsA X 0)), (1, .int a0), (2, .ref (xsA X 131))]) hx hb dL_tied_12 rfl hl (by decide) rfl (fun ls hl => ?_)
    refine lv_iconst (v := 1) hx hb dL_tied_13 (by decide) ?_
    exact xs_xiret C hr hlk (Or.inr ⟨_, _, e1, rfl, rfl⟩) hP hD hS (Nat.le_of_ble_eq_true rfl) (Nat.le_of_ble_eq_true rfl) dL_tied_14
  · obtain ⟨tx, e1, e2, e3⟩ := hp
    subst e3
    subst e2
    refine lv_i2l hx hb dL_tied_7 rfl ?_
    refine xs_lout C hP hD hS dL_tied_8 (fun H locs hP hD hS => ?_)
    refine lv_goto (tgt := 15) hx hb dL_tied_9 (by decide) ?_
    refine lv_iconst (v := 0) hx hb dL_tied_15 (by decide) ?_
    exact xs_xiret C hr hlk (Or.inl ⟨_, e1, rfl, rfl⟩) hP hD hS (Nat.le_of_ble_eq_true rfl) (Nat.le_of_ble_eq_true rfl) dL_tied_16
set_option maxRecDepth 100000 in
set_option maxHeartbeats 8000000 in
theorem mL_steps (l : Launch) (hst : l.stackTraces = false) {X : xsX} {kIsKept kIsStale hiLatest hiSize scLength scFault scAt scNumber piSegmentsNow enKind enFromX enFromY enToX enToY tiMeetingPairs tiAlongPairs tiSize evSize evCrossings evSegmentsNow grEdges grQueued huSize huBestX huBestY : Int32} {scBytes scTold tiTouching tiLyingAlong evBundle evCrossingOf evEventOf evLeftEvent evRightEvent grDegree grFar grQueue huX huY : Nat → Int32} {enX enY enLower : Int64} {evX evY evLower : Nat → Int64} {S : Nat → xsV} {Rw : va_W} {g0Lx g0Ly g0Rx g0Ry g0Ti : Nat → Int32} {g0Sz : Int32} (hs_0 : S 0 = (g0Lx, g0Ly, g0Rx, g0Ry, g0Ti, g0Sz)) {a0 : Int32} {a1 : Int32} {out : (Int32 × Int32 × Int32 × Int32 × Int64 × Int64 × Int64 × Int32 × Int32 × Int32 × Int32 × (Nat → Int32) × (Nat → Int32) × Int32 × Int32 × Int32 × (Nat → Int64) × (Nat → Int64) × (Nat → Int64) × (Nat → Int32) × (Nat → Int32) × (Nat → Int32) × (Nat → Int32) × (Nat → Int32) × Int32 × Int32 × Int32 × (Nat → Int32) × Int32) ⊕ (Nat × (Int32 × Int32 × Int32 × Int64 × Int64 × Int64 × Int32 × Int32 × Int32 × Int32 × (Nat → Int32) × (Nat → Int32) × Int32 × Int32 × Int32 × (Nat → Int64) × (Nat → Int64) × (Nat → Int64) × (Nat → Int32) × (Nat → Int32) × (Nat → Int32) × (Nat → Int32) × (Nat → Int32) × Int32 × Int32 × Int32 × (Nat → Int32) × Int32))} {ou : Nat → Int64} (hf : fX10_steps kIsStale piSegmentsNow enKind enX enY enLower enFromX enFromY enToX enToY tiTouching tiLyingAlong tiMeetingPairs tiAlongPairs tiSize evX evY evLower evBundle evCrossingOf evEventOf evLeftEvent evRightEvent evSize evCrossings evSegmentsNow grDegree grEdges g0Lx g0Ly g0Rx g0Ry g0Sz a0 a1 = some out) (hn : ∀ n tt, out = .inr (n, tt) → n = 3) : vx_Met l yL_steps (Cond.codeWith yL_steps cL_steps 5 (some .int) [(0, 10, 13, 25)] :: xsGt) { frames := 9, cells := 2, slots := 12, locals := 175 } (xsP X (wK X kIsKept kIsStale hiLatest hiSize scBytes scTold scLength scFault scAt scNumber piSegmentsNow enKind enX enY enLower enFromX enFromY enToX enToY tiTouching tiLyingAlong tiMeetingPairs tiAlongPairs tiSize evX evY evLower evBundle evCrossingOf evEventOf evLeftEvent evRightEvent evSize evCrossings evSegmentsNow grDegree grEdges grFar grQueue grQueued huX huY huSize huBestX huBestY S (xsOc X ou :: Rw)) [.ref (xsA X 0), .int a0, .int a1, .ref (xsA X 131)]) (xsXi X (fun r u => (∃ tt, out = .inl tt ∧ r = 0 ∧ u = wK X kIsKept tt.2.1 hiLatest hiSize scBytes scTold scLength scFault scAt scNumber tt.2.2.1 tt.2.2.2.1 tt.2.2.2.2.1 tt.2.2.2.2.2.1 tt.2.2.2.2.2.2.1 tt.2.2.2.2.2.2.2.1 tt.2.2.2.2.2.2.2.2.1 tt.2.2.2.2.2.2.2.2.2.1 tt.2.2.2.2.2.2.2.2.2.2.1 tt.2.2.2.2.2.2.2.2.2.2.2.1 tt.2.2.2.2.2.2.2.2.2.2.2.2.1 tt.2.2.2.2.2.2.2.2.2.2.2.2.2.1 tt.2.2.2.2.2.2.2.2.2.2.2.2.2.2.1 tt.2.2.2.2.2.2.2.2.2.2.2.2.2.2.2.1 tt.2.2.2.2.2.2.2.2.2.2.2.2.2.2.2.2.1 tt.2.2.2.2.2.2.2.2.2.2.2.2.2.2.2.2.2.1 tt.2.2.2.2.2.2.2.2.2.2.2.2.2.2.2.2.2.2.1 tt.2.2.2.2.2.2.2.2.2.2.2.2.2.2.2.2.2.2.2.1 tt.2.2.2.2.2.2.2.2.2.2.2.2.2.2.2.2.2.2.2.2.1 tt.2.2.2.2.2.2.2.2.2.2.2.2.2.2.2.2.2.2.2.2.2.1 tt.2.2.2.2.2.2.2.2.2.2.2.2.2.2.2.2.2.2.2.2.2.2.1 tt.2.2.2.2.2.2.2.2.2.2.2.2.2.2.2.2.2.2.2.2.2.2.2.1 tt.2.2.2.2.2.2.2.2.2.2.2.2.2.2.2.2.2.2.2.2.2.2.2.2.1 tt.2.2.2.2.2.2.2.2.2.2.2.2.2.2.2.2.2.2.2.2.2.2.2.2.2.1 tt.2.2.2.2.2.2.2.2.2.2.2.2.2.2.2.2.2.2.2.2.2.2.2.2.2.2.1 tt.2.2.2.2.2.2.2.2.2.2.2.2.2.2.2.2.2.2.2.2.2.2.2.2.2.2.2.1 tt.2.2.2.2.2.2.2.2.2.2.2.2.2.2.2.2.2.2.2.2.2.2.2.2.2.2.2.2 grFar grQueue grQueued huX huY huSize huBestX huBestY S (xsOc X (vp_updL ou 0 tt.1.toInt64) :: Rw)) ∨ (∃ n tt, out = .inr (n, tt) ∧ r = xsCd [(3, 1)] n ∧ u = wK X kIsKept tt.1 hiLatest hiSize scBytes scTold scLength scFault scAt scNumber tt.2.1 tt.2.2.1 tt.2.2.2.1 tt.2.2.2.2.1 tt.2.2.2.2.2.1 tt.2.2.2.2.2.2.1 tt.2.2.2.2.2.2.2.1 tt.2.2.2.2.2.2.2.2.1 tt.2.2.2.2.2.2.2.2.2.1 tt.2.2.2.2.2.2.2.2.2.2.1 tt.2.2.2.2.2.2.2.2.2.2.2.1 tt.2.2.2.2.2.2.2.2.2.2.2.2.1 tt.2.2.2.2.2.2.2.2.2.2.2.2.2.1 tt.2.2.2.2.2.2.2.2.2.2.2.2.2.2.1 tt.2.2.2.2.2.2.2.2.2.2.2.2.2.2.2.1 tt.2.2.2.2.2.2.2.2.2.2.2.2.2.2.2.2.1 tt.2.2.2.2.2.2.2.2.2.2.2.2.2.2.2.2.2.1 tt.2.2.2.2.2.2.2.2.2.2.2.2.2.2.2.2.2.2.1 tt.2.2.2.2.2.2.2.2.2.2.2.2.2.2.2.2.2.2.2.1 tt.2.2.2.2.2.2.2.2.2.2.2.2.2.2.2.2.2.2.2.2.1 tt.2.2.2.2.2.2.2.2.2.2.2.2.2.2.2.2.2.2.2.2.2.1 tt.2.2.2.2.2.2.2.2.2.2.2.2.2.2.2.2.2.2.2.2.2.2.1 tt.2.2.2.2.2.2.2.2.2.2.2.2.2.2.2.2.2.2.2.2.2.2.2.1 tt.2.2.2.2.2.2.2.2.2.2.2.2.2.2.2.2.2.2.2.2.2.2.2.2.1 tt.2.2.2.2.2.2.2.2.2.2.2.2.2.2.2.2.2.2.2.2.2.2.2.2.2.1 tt.2.2.2.2.2.2.2.2.2.2.2.2.2.2.2.2.2.2.2.2.2.2.2.2.2.2.1 tt.2.2.2.2.2.2.2.2.2.2.2.2.2.2.2.2.2.2.2.2.2.2.2.2.2.2.2 grFar grQueue grQueued huX huY huSize huBestX huBestY S (xsOc X ou :: Rw)))) (fun _ _ _ => False) 2 12 (xsF X) := by
  refine xs_lmet RL (by decide) rfl (Nat.le_of_ble_eq_true rfl) ?_
  intro p e s m below meth c ls H locs C htab hP hD hS hr hlk hl
  have hx := C.1
  have hb := C.2.1
  have hl : lv_has ls 5 [(0, .ref (xsA X 0)), (1, .int a0), (2, .int a1), (3, .ref (xsA X 131))] := hl
  refine lv_aload_n hx hb dL_steps_0 rfl (lv_at hl 3 rfl) ?_
  refine lv_iconst (v := 0) hx hb dL_steps_1 (by decide) ?_
  refine lv_aload_n hx hb dL_steps_2 rfl (lv_at hl 0 rfl) ?_
  refine lv_iload_n hx hb dL_steps_3 rfl (lv_at hl 1 rfl) ?_
  refine lv_iload_n hx hb dL_steps_4 rfl (lv_at hl 2 rfl) ?_
  refine xs_xcalli hS (xs_xrunV (As := [.int a0, .int a1]) (rest := [.int 0, .ref (xsA X 131)]) C (mX10_steps l hst hs_0 hf) w_1234 w_1235 w_1236 w_105 w_1237 hd_X10_steps ⟨rfl, rfl, Nat.le_of_ble_eq_true rfl, Nat.le_of_ble_eq_true rfl, Nat.le_of_ble_eq_true rfl, Nat.le_of_ble_eq_true rfl⟩ hP hD hS lk_X10 rfl hl.1 rfl (Nat.le_of_ble_eq_true rfl) dL_steps_5) (fun n u q H locs hpx hP hD hS hq => ?_) (fun r u H locs hp hP hD hS => ?_)
  · obtain ⟨tx, e1, e2⟩ := hpx
    subst e2
    obtain ⟨ce, hq1, hq2, hq3⟩ := hq
    have en := hn n tx e1
    subst en
    refine vx_catch (own := RL) (name := "java/lang/IndexOutOfBoundsException") (E := xsEx 3) C.2.2.2.1 [] ({ startPc := 0, endPc := 10, handlerPc := 13, catchType := 25 } : ExceptionTableEntry) [] htab (fun z hz => absurd hz List.not_mem_nil) (by decide) (by decide) (xs_kts C _ w_1013) (xs_bd3 (n := 3) C _ List.mem_cons_self) hq1 hq2 hq3 ?_
    refine lv_astore (lv' := [(4, .ref q), (0, .ref (xsA X 0)), (1, .int a0), (2, .int a1), (3, .ref (xsA X 131))]) hx hb dL_steps_13 hl (by decide) rfl (fun ls hl => ?_)
    refine lv_iconst (v := 1) hx hb dL_steps_15 (by decide) ?_
    exact xs_xiret C hr hlk (Or.inr ⟨_, _, e1, rfl, rfl⟩) hP hD hS (Nat.le_of_ble_eq_true rfl) (Nat.le_of_ble_eq_true rfl) dL_steps_16
  · obtain ⟨tx, e1, e2, e3⟩ := hp
    subst e3
    subst e2
    refine lv_i2l hx hb dL_steps_8 rfl ?_
    refine xs_lout C hP hD hS dL_steps_9 (fun H locs hP hD hS => ?_)
    refine lv_goto (tgt := 17) hx hb dL_steps_10 (by decide) ?_
    refine lv_iconst (v := 0) hx hb dL_steps_17 (by decide) ?_
    exact xs_xiret C hr hlk (Or.inl ⟨_, e1, rfl, rfl⟩) hP hD hS (Nat.le_of_ble_eq_true rfl) (Nat.le_of_ble_eq_true rfl) dL_steps_18
set_option maxRecDepth 100000 in
set_option maxHeartbeats 8000000 in
theorem mL_hull (l : Launch) (hst : l.stackTraces = false) {X : xsX} {kIsKept kIsStale hiLatest hiSize scLength scFault scAt scNumber piSegmentsNow enKind enFromX enFromY enToX enToY tiMeetingPairs tiAlongPairs tiSize evSize evCrossings evSegmentsNow grEdges grQueued huSize huBestX huBestY : Int32} {scBytes scTold tiTouching tiLyingAlong evBundle evCrossingOf evEventOf evLeftEvent evRightEvent grDegree grFar grQueue huX huY : Nat → Int32} {enX enY enLower : Int64} {evX evY evLower : Nat → Int64} {S : Nat → xsV} {Rw : va_W} {g0Lx g0Ly g0Rx g0Ry g0Ti : Nat → Int32} {g0Sz : Int32} (hs_0 : S 0 = (g0Lx, g0Ly, g0Rx, g0Ry, g0Ti, g0Sz)) {a0 : Int32} {a1 : Int32} {out : (Int32 × (Nat → Int32) × (Nat → Int32) × Int32 × Int32 × Int32) ⊕ (Nat × ((Nat → Int32) × (Nat → Int32) × Int32 × Int32 × Int32))} {ou : Nat → Int64} (hf : fX10_hull huX huY huSize huBestX huBestY g0Lx g0Ly g0Rx g0Ry g0Sz a0 a1 = some out) (hn : ∀ n tt, out = .inr (n, tt) → n = 3) : vx_Met l yL_hull (Cond.codeWith yL_hull cL_hull 5 (some .int) [(0, 10, 13, 25)] :: xsGt) { frames := 8, cells := 1, slots := 6, locals := 133 } (xsP X (wK X kIsKept kIsStale hiLatest hiSize scBytes scTold scLength scFault scAt scNumber piSegmentsNow enKind enX enY enLower enFromX enFromY enToX enToY tiTouching tiLyingAlong tiMeetingPairs tiAlongPairs tiSize evX evY evLower evBundle evCrossingOf evEventOf evLeftEvent evRightEvent evSize evCrossings evSegmentsNow grDegree grEdges grFar grQueue grQueued huX huY huSize huBestX huBestY S (xsOc X ou :: Rw)) [.ref (xsA X 0), .int a0, .int a1, .ref (xsA X 131)]) (xsXi X (fun r u => (∃ tt, out = .inl tt ∧ r = 0 ∧ u = wK X kIsKept kIsStale hiLatest hiSize scBytes scTold scLength scFault scAt scNumber piSegmentsNow enKind enX enY enLower enFromX enFromY enToX enToY tiTouching tiLyingAlong tiMeetingPairs tiAlongPairs tiSize evX evY evLower evBundle evCrossingOf evEventOf evLeftEvent evRightEvent evSize evCrossings evSegmentsNow grDegree grEdges grFar grQueue grQueued tt.2.1 tt.2.2.1 tt.2.2.2.1 tt.2.2.2.2.1 tt.2.2.2.2.2 S (xsOc X (vp_updL ou 0 tt.1.toInt64) :: Rw)) ∨ (∃ n tt, out = .inr (n, tt) ∧ r = xsCd [(3, 1)] n ∧ u = wK X kIsKept kIsStale hiLatest hiSize scBytes scTold scLength scFault scAt scNumber piSegmentsNow enKind enX enY enLower enFromX enFromY enToX enToY tiTouching tiLyingAlong tiMeetingPairs tiAlongPairs tiSize evX evY evLower evBundle evCrossingOf evEventOf evLeftEvent evRightEvent evSize evCrossings evSegmentsNow grDegree grEdges grFar grQueue grQueued tt.1 tt.2.1 tt.2.2.1 tt.2.2.2.1 tt.2.2.2.2 S (xsOc X ou :: Rw)))) (fun _ _ _ => False) 1 6 (xsF X) := by
  refine xs_lmet RL (by decide) rfl (Nat.le_of_ble_eq_true rfl) ?_
  intro p e s m below meth c ls H locs C htab hP hD hS hr hlk hl
  have hx := C.1
  have hb := C.2.1
  have hl : lv_has ls 5 [(0, .ref (xsA X 0)), (1, .int a0), (2, .int a1), (3, .ref (xsA X 131))] := hl
  refine lv_aload_n hx hb dL_hull_0 rfl (lv_at hl 3 rfl) ?_
  refine lv_iconst (v := 0) hx hb dL_hull_1 (by decide) ?_
  refine lv_aload_n hx hb dL_hull_2 rfl (lv_at hl 0 rfl) ?_
  refine lv_iload_n hx hb dL_hull_3 rfl (lv_at hl 1 rfl) ?_
  refine lv_iload_n hx hb dL_hull_4 rfl (lv_at hl 2 rfl) ?_
  refine xs_xcalli hS (xs_xrunV (As := [.int a0, .int a1]) (rest := [.int 0, .ref (xsA X 131)]) C (mX10_hull l hst hs_0 hf) w_1245 w_1246 w_1247 w_105 w_1248 hd_X10_hull ⟨rfl, rfl, Nat.le_of_ble_eq_true rfl, Nat.le_of_ble_eq_true rfl, Nat.le_of_ble_eq_true rfl, Nat.le_of_ble_eq_true rfl⟩ hP hD hS lk_X10 rfl hl.1 rfl (Nat.le_of_ble_eq_true rfl) dL_hull_5) (fun n u q H locs hpx hP hD hS hq => ?_) (fun r u H locs hp hP hD hS => ?_)
  · obtain ⟨tx, e1, e2⟩ := hpx
    subst e2
    obtain ⟨ce, hq1, hq2, hq3⟩ := hq
    have en := hn n tx e1
    subst en
    refine vx_catch (own := RL) (name := "java/lang/IndexOutOfBoundsException") (E := xsEx 3) C.2.2.2.1 [] ({ startPc := 0, endPc := 10, handlerPc := 13, catchType := 25 } : ExceptionTableEntry) [] htab (fun z hz => absurd hz List.not_mem_nil) (by decide) (by decide) (xs_kts C _ w_1013) (xs_bd3 (n := 3) C _ List.mem_cons_self) hq1 hq2 hq3 ?_
    refine lv_astore (lv' := [(4, .ref q), (0, .ref (xsA X 0)), (1, .int a0), (2, .int a1), (3, .ref (xsA X 131))]) hx hb dL_hull_13 hl (by decide) rfl (fun ls hl => ?_)
    refine lv_iconst (v := 1) hx hb dL_hull_15 (by decide) ?_
    exact xs_xiret C hr hlk (Or.inr ⟨_, _, e1, rfl, rfl⟩) hP hD hS (Nat.le_of_ble_eq_true rfl) (Nat.le_of_ble_eq_true rfl) dL_hull_16
  · obtain ⟨tx, e1, e2, e3⟩ := hp
    subst e3
    subst e2
    refine lv_i2l hx hb dL_hull_8 rfl ?_
    refine xs_lout C hP hD hS dL_hull_9 (fun H locs hP hD hS => ?_)
    refine lv_goto (tgt := 17) hx hb dL_hull_10 (by decide) ?_
    refine lv_iconst (v := 0) hx hb dL_hull_17 (by decide) ?_
    exact xs_xiret C hr hlk (Or.inl ⟨_, e1, rfl, rfl⟩) hP hD hS (Nat.le_of_ble_eq_true rfl) (Nat.le_of_ble_eq_true rfl) dL_hull_18
set_option maxRecDepth 100000 in
set_option maxHeartbeats 8000000 in
theorem mL_on (l : Launch) (hst : l.stackTraces = false) {X : xsX} {kIsKept kIsStale hiLatest hiSize scLength scFault scAt scNumber piSegmentsNow enKind enFromX enFromY enToX enToY tiMeetingPairs tiAlongPairs tiSize evSize evCrossings evSegmentsNow grEdges grQueued huSize huBestX huBestY : Int32} {scBytes scTold tiTouching tiLyingAlong evBundle evCrossingOf evEventOf evLeftEvent evRightEvent grDegree grFar grQueue huX huY : Nat → Int32} {enX enY enLower : Int64} {evX evY evLower : Nat → Int64} {S : Nat → xsV} {Rw : va_W} {g0Lx g0Ly g0Rx g0Ry g0Ti : Nat → Int32} {g0Sz : Int32} (hs_0 : S 0 = (g0Lx, g0Ly, g0Rx, g0Ry, g0Ti, g0Sz)) {a0 : Int32} {a1 : Int32} {out : (Int32 × Int32 × Int32 × Int32 × Int64 × Int64 × Int64 × Int32 × Int32 × Int32 × Int32 × (Nat → Int32) × (Nat → Int32) × Int32 × Int32 × Int32 × (Nat → Int64) × (Nat → Int64) × (Nat → Int64) × (Nat → Int32) × (Nat → Int32) × (Nat → Int32) × (Nat → Int32) × (Nat → Int32) × Int32 × Int32 × Int32 × (Nat → Int32) × Int32) ⊕ (Nat × (Int32 × Int32 × Int32 × Int64 × Int64 × Int64 × Int32 × Int32 × Int32 × Int32 × (Nat → Int32) × (Nat → Int32) × Int32 × Int32 × Int32 × (Nat → Int64) × (Nat → Int64) × (Nat → Int64) × (Nat → Int32) × (Nat → Int32) × (Nat → Int32) × (Nat → Int32) × (Nat → Int32) × Int32 × Int32 × Int32 × (Nat → Int32) × Int32))} {ou : Nat → Int64} (hf : fX10_on kIsStale piSegmentsNow enKind enX enY enLower enFromX enFromY enToX enToY tiTouching tiLyingAlong tiMeetingPairs tiAlongPairs tiSize evX evY evLower evBundle evCrossingOf evEventOf evLeftEvent evRightEvent evSize evCrossings evSegmentsNow grDegree grEdges g0Lx g0Ly g0Rx g0Ry g0Sz a0 a1 = some out) (hn : ∀ n tt, out = .inr (n, tt) → n = 3) : vx_Met l yL_on (Cond.codeWith yL_on cL_on 5 (some .int) [(0, 10, 13, 25)] :: xsGt) { frames := 9, cells := 1, slots := 6, locals := 178 } (xsP X (wK X kIsKept kIsStale hiLatest hiSize scBytes scTold scLength scFault scAt scNumber piSegmentsNow enKind enX enY enLower enFromX enFromY enToX enToY tiTouching tiLyingAlong tiMeetingPairs tiAlongPairs tiSize evX evY evLower evBundle evCrossingOf evEventOf evLeftEvent evRightEvent evSize evCrossings evSegmentsNow grDegree grEdges grFar grQueue grQueued huX huY huSize huBestX huBestY S (xsOc X ou :: Rw)) [.ref (xsA X 0), .int a0, .int a1, .ref (xsA X 131)]) (xsXi X (fun r u => (∃ tt, out = .inl tt ∧ r = 0 ∧ u = wK X kIsKept tt.2.1 hiLatest hiSize scBytes scTold scLength scFault scAt scNumber tt.2.2.1 tt.2.2.2.1 tt.2.2.2.2.1 tt.2.2.2.2.2.1 tt.2.2.2.2.2.2.1 tt.2.2.2.2.2.2.2.1 tt.2.2.2.2.2.2.2.2.1 tt.2.2.2.2.2.2.2.2.2.1 tt.2.2.2.2.2.2.2.2.2.2.1 tt.2.2.2.2.2.2.2.2.2.2.2.1 tt.2.2.2.2.2.2.2.2.2.2.2.2.1 tt.2.2.2.2.2.2.2.2.2.2.2.2.2.1 tt.2.2.2.2.2.2.2.2.2.2.2.2.2.2.1 tt.2.2.2.2.2.2.2.2.2.2.2.2.2.2.2.1 tt.2.2.2.2.2.2.2.2.2.2.2.2.2.2.2.2.1 tt.2.2.2.2.2.2.2.2.2.2.2.2.2.2.2.2.2.1 tt.2.2.2.2.2.2.2.2.2.2.2.2.2.2.2.2.2.2.1 tt.2.2.2.2.2.2.2.2.2.2.2.2.2.2.2.2.2.2.2.1 tt.2.2.2.2.2.2.2.2.2.2.2.2.2.2.2.2.2.2.2.2.1 tt.2.2.2.2.2.2.2.2.2.2.2.2.2.2.2.2.2.2.2.2.2.1 tt.2.2.2.2.2.2.2.2.2.2.2.2.2.2.2.2.2.2.2.2.2.2.1 tt.2.2.2.2.2.2.2.2.2.2.2.2.2.2.2.2.2.2.2.2.2.2.2.1 tt.2.2.2.2.2.2.2.2.2.2.2.2.2.2.2.2.2.2.2.2.2.2.2.2.1 tt.2.2.2.2.2.2.2.2.2.2.2.2.2.2.2.2.2.2.2.2.2.2.2.2.2.1 tt.2.2.2.2.2.2.2.2.2.2.2.2.2.2.2.2.2.2.2.2.2.2.2.2.2.2.1 tt.2.2.2.2.2.2.2.2.2.2.2.2.2.2.2.2.2.2.2.2.2.2.2.2.2.2.2.1 tt.2.2.2.2.2.2.2.2.2.2.2.2.2.2.2.2.2.2.2.2.2.2.2.2.2.2.2.2 grFar grQueue grQueued huX huY huSize huBestX huBestY S (xsOc X (vp_updL ou 0 tt.1.toInt64) :: Rw)) ∨ (∃ n tt, out = .inr (n, tt) ∧ r = xsCd [(3, 1)] n ∧ u = wK X kIsKept tt.1 hiLatest hiSize scBytes scTold scLength scFault scAt scNumber tt.2.1 tt.2.2.1 tt.2.2.2.1 tt.2.2.2.2.1 tt.2.2.2.2.2.1 tt.2.2.2.2.2.2.1 tt.2.2.2.2.2.2.2.1 tt.2.2.2.2.2.2.2.2.1 tt.2.2.2.2.2.2.2.2.2.1 tt.2.2.2.2.2.2.2.2.2.2.1 tt.2.2.2.2.2.2.2.2.2.2.2.1 tt.2.2.2.2.2.2.2.2.2.2.2.2.1 tt.2.2.2.2.2.2.2.2.2.2.2.2.2.1 tt.2.2.2.2.2.2.2.2.2.2.2.2.2.2.1 tt.2.2.2.2.2.2.2.2.2.2.2.2.2.2.2.1 tt.2.2.2.2.2.2.2.2.2.2.2.2.2.2.2.2.1 tt.2.2.2.2.2.2.2.2.2.2.2.2.2.2.2.2.2.1 tt.2.2.2.2.2.2.2.2.2.2.2.2.2.2.2.2.2.2.1 tt.2.2.2.2.2.2.2.2.2.2.2.2.2.2.2.2.2.2.2.1 tt.2.2.2.2.2.2.2.2.2.2.2.2.2.2.2.2.2.2.2.2.1 tt.2.2.2.2.2.2.2.2.2.2.2.2.2.2.2.2.2.2.2.2.2.1 tt.2.2.2.2.2.2.2.2.2.2.2.2.2.2.2.2.2.2.2.2.2.2.1 tt.2.2.2.2.2.2.2.2.2.2.2.2.2.2.2.2.2.2.2.2.2.2.2.1 tt.2.2.2.2.2.2.2.2.2.2.2.2.2.2.2.2.2.2.2.2.2.2.2.2.1 tt.2.2.2.2.2.2.2.2.2.2.2.2.2.2.2.2.2.2.2.2.2.2.2.2.2.1 tt.2.2.2.2.2.2.2.2.2.2.2.2.2.2.2.2.2.2.2.2.2.2.2.2.2.2.1 tt.2.2.2.2.2.2.2.2.2.2.2.2.2.2.2.2.2.2.2.2.2.2.2.2.2.2.2 grFar grQueue grQueued huX huY huSize huBestX huBestY S (xsOc X ou :: Rw)))) (fun _ _ _ => False) 1 6 (xsF X) := by
  refine xs_lmet RL (by decide) rfl (Nat.le_of_ble_eq_true rfl) ?_
  intro p e s m below meth c ls H locs C htab hP hD hS hr hlk hl
  have hx := C.1
  have hb := C.2.1
  have hl : lv_has ls 5 [(0, .ref (xsA X 0)), (1, .int a0), (2, .int a1), (3, .ref (xsA X 131))] := hl
  refine lv_aload_n hx hb dL_on_0 rfl (lv_at hl 3 rfl) ?_
  refine lv_iconst (v := 0) hx hb dL_on_1 (by decide) ?_
  refine lv_aload_n hx hb dL_on_2 rfl (lv_at hl 0 rfl) ?_
  refine lv_iload_n hx hb dL_on_3 rfl (lv_at hl 1 rfl) ?_
  refine lv_iload_n hx hb dL_on_4 rfl (lv_at hl 2 rfl) ?_
  refine xs_xcalli hS (xs_xrunV (As := [.int a0, .int a1]) (rest := [.int 0, .ref (xsA X 131)]) C (mX10_on l hst hs_0 hf) w_1252 w_1253 w_1254 w_105 w_1255 hd_X10_on ⟨rfl, rfl, Nat.le_of_ble_eq_true rfl, Nat.le_of_ble_eq_true rfl, Nat.le_of_ble_eq_true rfl, Nat.le_of_ble_eq_true rfl⟩ hP hD hS lk_X10 rfl hl.1 rfl (Nat.le_of_ble_eq_true rfl) dL_on_5) (fun n u q H locs hpx hP hD hS hq => ?_) (fun r u H locs hp hP hD hS => ?_)
  · obtain ⟨tx, e1, e2⟩ := hpx
    subst e2
    obtain ⟨ce, hq1, hq2, hq3⟩ := hq
    have en := hn n tx e1
    subst en
    refine vx_catch (own := RL) (name := "java/lang/IndexOutOfBoundsException") (E := xsEx 3) C.2.2.2.1 [] ({ startPc := 0, endPc := 10, handlerPc := 13, catchType := 25 } : ExceptionTableEntry) [] htab (fun z hz => absurd hz List.not_mem_nil) (by decide) (by decide) (xs_kts C _ w_1013) (xs_bd3 (n := 3) C _ List.mem_cons_self) hq1 hq2 hq3 ?_
    refine lv_astore (lv' := [(4, .ref q), (0, .ref (xsA X 0)), (1, .int a0), (2, .int a1), (3, .ref (xsA X 131))]) hx hb dL_on_13 hl (by decide) rfl (fun ls hl => ?_)
    refine lv_iconst (v := 1) hx hb dL_on_15 (by decide) ?_
    exact xs_xiret C hr hlk (Or.inr ⟨_, _, e1, rfl, rfl⟩) hP hD hS (Nat.le_of_ble_eq_true rfl) (Nat.le_of_ble_eq_true rfl) dL_on_16
  · obtain ⟨tx, e1, e2, e3⟩ := hp
    subst e3
    subst e2
    refine lv_i2l hx hb dL_on_8 rfl ?_
    refine xs_lout C hP hD hS dL_on_9 (fun H locs hP hD hS => ?_)
    refine lv_goto (tgt := 17) hx hb dL_on_10 (by decide) ?_
    refine lv_iconst (v := 0) hx hb dL_on_17 (by decide) ?_
    exact xs_xiret C hr hlk (Or.inl ⟨_, e1, rfl, rfl⟩) hP hD hS (Nat.le_of_ble_eq_true rfl) (Nat.le_of_ble_eq_true rfl) dL_on_18
set_option maxRecDepth 100000 in
set_option maxHeartbeats 8000000 in
theorem mL_at (l : Launch) (hst : l.stackTraces = false) {X : xsX} {kIsKept kIsStale hiLatest hiSize scLength scFault scAt scNumber piSegmentsNow enKind enFromX enFromY enToX enToY tiMeetingPairs tiAlongPairs tiSize evSize evCrossings evSegmentsNow grEdges grQueued huSize huBestX huBestY : Int32} {scBytes scTold tiTouching tiLyingAlong evBundle evCrossingOf evEventOf evLeftEvent evRightEvent grDegree grFar grQueue huX huY : Nat → Int32} {enX enY enLower : Int64} {evX evY evLower : Nat → Int64} {S : Nat → xsV} {Rw : va_W} {g0Lx g0Ly g0Rx g0Ry g0Ti : Nat → Int32} {g0Sz : Int32} (hs_0 : S 0 = (g0Lx, g0Ly, g0Rx, g0Ry, g0Ti, g0Sz)) {a0 : Int32} {a1 : Int32} {out : (Int32) ⊕ (Nat × (Unit))} {ou : Nat → Int64} (hf : fX10_at g0Lx g0Ly g0Rx g0Ry g0Sz a0 a1 = some out) (hn : ∀ n tt, out = .inr (n, tt) → n = 1) : vx_Met l yL_at (Cond.codeWith yL_at cL_at 5 (some .int) [(0, 10, 13, 13)] :: xsGt) { frames := 8, cells := 1, slots := 6, locals := 135 } (xsP X (wK X kIsKept kIsStale hiLatest hiSize scBytes scTold scLength scFault scAt scNumber piSegmentsNow enKind enX enY enLower enFromX enFromY enToX enToY tiTouching tiLyingAlong tiMeetingPairs tiAlongPairs tiSize evX evY evLower evBundle evCrossingOf evEventOf evLeftEvent evRightEvent evSize evCrossings evSegmentsNow grDegree grEdges grFar grQueue grQueued huX huY huSize huBestX huBestY S (xsOc X ou :: Rw)) [.ref (xsA X 0), .int a0, .int a1, .ref (xsA X 131)]) (xsXi X (fun r u => (∃ tt, out = .inl tt ∧ r = 0 ∧ u = wK X kIsKept kIsStale hiLatest hiSize scBytes scTold scLength scFault scAt scNumber piSegmentsNow enKind enX enY enLower enFromX enFromY enToX enToY tiTouching tiLyingAlong tiMeetingPairs tiAlongPairs tiSize evX evY evLower evBundle evCrossingOf evEventOf evLeftEvent evRightEvent evSize evCrossings evSegmentsNow grDegree grEdges grFar grQueue grQueued huX huY huSize huBestX huBestY S (xsOc X (vp_updL ou 0 tt.toInt64) :: Rw)) ∨ (∃ n tt, out = .inr (n, tt) ∧ r = xsCd [(1, 1)] n ∧ u = wK X kIsKept kIsStale hiLatest hiSize scBytes scTold scLength scFault scAt scNumber piSegmentsNow enKind enX enY enLower enFromX enFromY enToX enToY tiTouching tiLyingAlong tiMeetingPairs tiAlongPairs tiSize evX evY evLower evBundle evCrossingOf evEventOf evLeftEvent evRightEvent evSize evCrossings evSegmentsNow grDegree grEdges grFar grQueue grQueued huX huY huSize huBestX huBestY S (xsOc X ou :: Rw)))) (fun _ _ _ => False) 1 6 (xsF X) := by
  refine xs_lmet RL (by decide) rfl (Nat.le_of_ble_eq_true rfl) ?_
  intro p e s m below meth c ls H locs C htab hP hD hS hr hlk hl
  have hx := C.1
  have hb := C.2.1
  have hl : lv_has ls 5 [(0, .ref (xsA X 0)), (1, .int a0), (2, .int a1), (3, .ref (xsA X 131))] := hl
  refine lv_aload_n hx hb dL_at_0 rfl (lv_at hl 3 rfl) ?_
  refine lv_iconst (v := 0) hx hb dL_at_1 (by decide) ?_
  refine lv_aload_n hx hb dL_at_2 rfl (lv_at hl 0 rfl) ?_
  refine lv_iload_n hx hb dL_at_3 rfl (lv_at hl 1 rfl) ?_
  refine lv_iload_n hx hb dL_at_4 rfl (lv_at hl 2 rfl) ?_
  refine xs_xcalli hS (xs_xrunV (As := [.int a0, .int a1]) (rest := [.int 0, .ref (xsA X 131)]) C (mX10_at l hst hs_0 hf) w_1259 w_1260 w_1261 w_105 w_1262 hd_X10_at ⟨rfl, rfl, Nat.le_of_ble_eq_true rfl, Nat.le_of_ble_eq_true rfl, Nat.le_of_ble_eq_true rfl, Nat.le_of_ble_eq_true rfl⟩ hP hD hS lk_X10 rfl hl.1 rfl (Nat.le_of_ble_eq_true rfl) dL_at_5) (fun n u q H locs hpx hP hD hS hq => ?_) (fun r u H locs hp hP hD hS => ?_)
  · obtain ⟨tx, e1, e2⟩ := hpx
    subst e2
    obtain ⟨ce, hq1, hq2, hq3⟩ := hq
    have en := hn n tx e1
    subst en
    refine vx_catch (own := RL) (name := "java/lang/IllegalArgumentException") (E := xsEx 1) C.2.2.2.1 [] ({ startPc := 0, endPc := 10, handlerPc := 13, catchType := 13 } : ExceptionTableEntry) [] htab (fun z hz => absurd hz List.not_mem_nil) (by decide) (by decide) (xs_kts C _ w_768) (xs_bd3 (n := 1) C _ List.mem_cons_self) hq1 hq2 hq3 ?_
    refine lv_astore (lv' := [(4, .ref q), (0, .ref (xsA X 0)), (1, .int a0), (2, .int a1), (3, .ref (xsA X 131))]) hx hb dL_at_13 hl (by decide) rfl (fun ls hl => ?_)
    refine lv_iconst (v := 1) hx hb dL_at_15 (by decide) ?_
    exact xs_xiret C hr hlk (Or.inr ⟨_, _, e1, rfl, rfl⟩) hP hD hS (Nat.le_of_ble_eq_true rfl) (Nat.le_of_ble_eq_true rfl) dL_at_16
  · obtain ⟨tx, e1, e2, e3⟩ := hp
    subst e3
    subst e2
    refine lv_i2l hx hb dL_at_8 rfl ?_
    refine xs_lout C hP hD hS dL_at_9 (fun H locs hP hD hS => ?_)
    refine lv_goto (tgt := 17) hx hb dL_at_10 (by decide) ?_
    refine lv_iconst (v := 0) hx hb dL_at_17 (by decide) ?_
    exact xs_xiret C hr hlk (Or.inl ⟨_, e1, rfl, rfl⟩) hP hD hS (Nat.le_of_ble_eq_true rfl) (Nat.le_of_ble_eq_true rfl) dL_at_18
set_option maxRecDepth 100000 in
set_option maxHeartbeats 8000000 in
theorem mL_next (l : Launch) (hst : l.stackTraces = false) {X : xsX} {kIsKept kIsStale hiLatest hiSize scLength scFault scAt scNumber piSegmentsNow enKind enFromX enFromY enToX enToY tiMeetingPairs tiAlongPairs tiSize evSize evCrossings evSegmentsNow grEdges grQueued huSize huBestX huBestY : Int32} {scBytes scTold tiTouching tiLyingAlong evBundle evCrossingOf evEventOf evLeftEvent evRightEvent grDegree grFar grQueue huX huY : Nat → Int32} {enX enY enLower : Int64} {evX evY evLower : Nat → Int64} {S : Nat → xsV} {Rw : va_W} {g0Lx g0Ly g0Rx g0Ry g0Ti : Nat → Int32} {g0Sz : Int32} (hs_0 : S 0 = (g0Lx, g0Ly, g0Rx, g0Ry, g0Ti, g0Sz)) {a0 : Int32} {a1 : Int32} {a2 : Int32} {out : (Int32) ⊕ (Nat × (Unit))} {ou : Nat → Int64} (hf : fX10_next g0Lx g0Ly g0Rx g0Ry g0Sz a0 a1 a2 = some out) (hn : ∀ n tt, out = .inr (n, tt) → n = 1) : vx_Met l yL_next (Cond.codeWith yL_next cL_next 6 (some .int) [(0, 12, 15, 13)] :: xsGt) { frames := 8, cells := 1, slots := 6, locals := 144 } (xsP X (wK X kIsKept kIsStale hiLatest hiSize scBytes scTold scLength scFault scAt scNumber piSegmentsNow enKind enX enY enLower enFromX enFromY enToX enToY tiTouching tiLyingAlong tiMeetingPairs tiAlongPairs tiSize evX evY evLower evBundle evCrossingOf evEventOf evLeftEvent evRightEvent evSize evCrossings evSegmentsNow grDegree grEdges grFar grQueue grQueued huX huY huSize huBestX huBestY S (xsOc X ou :: Rw)) [.ref (xsA X 0), .int a0, .int a1, .int a2, .ref (xsA X 131)]) (xsXi X (fun r u => (∃ tt, out = .inl tt ∧ r = 0 ∧ u = wK X kIsKept kIsStale hiLatest hiSize scBytes scTold scLength scFault scAt scNumber piSegmentsNow enKind enX enY enLower enFromX enFromY enToX enToY tiTouching tiLyingAlong tiMeetingPairs tiAlongPairs tiSize evX evY evLower evBundle evCrossingOf evEventOf evLeftEvent evRightEvent evSize evCrossings evSegmentsNow grDegree grEdges grFar grQueue grQueued huX huY huSize huBestX huBestY S (xsOc X (vp_updL ou 0 tt.toInt64) :: Rw)) ∨ (∃ n tt, out = .inr (n, tt) ∧ r = xsCd [(1, 1)] n ∧ u = wK X kIsKept kIsStale hiLatest hiSize scBytes scTold scLength scFault scAt scNumber piSegmentsNow enKind enX enY enLower enFromX enFromY enToX enToY tiTouching tiLyingAlong tiMeetingPairs tiAlongPairs tiSize evX evY evLower evBundle evCrossingOf evEventOf evLeftEvent evRightEvent evSize evCrossings evSegmentsNow grDegree grEdges grFar grQueue grQueued huX huY huSize huBestX huBestY S (xsOc X ou :: Rw)))) (fun _ _ _ => False) 1 6 (xsF X) := by
  refine xs_lmet RL (by decide) rfl (Nat.le_of_ble_eq_true rfl) ?_
  intro p e s m below meth c ls H locs C htab hP hD hS hr hlk hl
  have hx := C.1
  have hb := C.2.1
  have hl : lv_has ls 6 [(0, .ref (xsA X 0)), (1, .int a0), (2, .int a1), (3, .int a2), (4, .ref (xsA X 131))] := hl
  refine lv_aload hx hb dL_next_0 (lv_at hl 4 rfl) ?_
  refine lv_iconst (v := 0) hx hb dL_next_2 (by decide) ?_
  refine lv_aload_n hx hb dL_next_3 rfl (lv_at hl 0 rfl) ?_
  refine lv_iload_n hx hb dL_next_4 rfl (lv_at hl 1 rfl) ?_
  refine lv_iload_n hx hb dL_next_5 rfl (lv_at hl 2 rfl) ?_
  refine lv_iload_n hx hb dL_next_6 rfl (lv_at hl 3 rfl) ?_
  refine xs_xcalli hS (xs_xrunV (As := [.int a0, .int a1, .int a2]) (rest := [.int 0, .ref (xsA X 131)]) C (mX10_next l hst hs_0 hf) w_1278 w_1279 w_1280 w_105 w_1281 hd_X10_next ⟨rfl, rfl, Nat.le_of_ble_eq_true rfl, Nat.le_of_ble_eq_true rfl, Nat.le_of_ble_eq_true rfl, Nat.le_of_ble_eq_true rfl⟩ hP hD hS lk_X10 rfl hl.1 rfl (Nat.le_of_ble_eq_true rfl) dL_next_7) (fun n u q H locs hpx hP hD hS hq => ?_) (fun r u H locs hp hP hD hS => ?_)
  · obtain ⟨tx, e1, e2⟩ := hpx
    subst e2
    obtain ⟨ce, hq1, hq2, hq3⟩ := hq
    have en := hn n tx e1
    subst en
    refine vx_catch (own := RL) (name := "java/lang/IllegalArgumentException") (E := xsEx 1) C.2.2.2.1 [] ({ startPc := 0, endPc := 12, handlerPc := 15, catchType := 13 } : ExceptionTableEntry) [] htab (fun z hz => absurd hz List.not_mem_nil) (by decide) (by decide) (xs_kts C _ w_768) (xs_bd3 (n := 1) C _ List.mem_cons_self) hq1 hq2 hq3 ?_
    refine lv_astore (lv' := [(5, .ref q), (0, .ref (xsA X 0)), (1, .int a0), (2, .int a1), (3, .int a2), (4, .ref (xsA X 131))]) hx hb dL_next_15 hl (by decide) rfl (fun ls hl => ?_)
    refine lv_iconst (v := 1) hx hb dL_next_17 (by decide) ?_
    exact xs_xiret C hr hlk (Or.inr ⟨_, _, e1, rfl, rfl⟩) hP hD hS (Nat.le_of_ble_eq_true rfl) (Nat.le_of_ble_eq_true rfl) dL_next_18
  · obtain ⟨tx, e1, e2, e3⟩ := hp
    subst e3
    subst e2
    refine lv_i2l hx hb dL_next_10 rfl ?_
    refine xs_lout C hP hD hS dL_next_11 (fun H locs hP hD hS => ?_)
    refine lv_goto (tgt := 19) hx hb dL_next_12 (by decide) ?_
    refine lv_iconst (v := 0) hx hb dL_next_19 (by decide) ?_
    exact xs_xiret C hr hlk (Or.inl ⟨_, e1, rfl, rfl⟩) hP hD hS (Nat.le_of_ble_eq_true rfl) (Nat.le_of_ble_eq_true rfl) dL_next_20
set_option maxRecDepth 100000 in
set_option maxHeartbeats 8000000 in
theorem mL_over (l : Launch) (hst : l.stackTraces = false) {X : xsX} {kIsKept kIsStale hiLatest hiSize scLength scFault scAt scNumber piSegmentsNow enKind enFromX enFromY enToX enToY tiMeetingPairs tiAlongPairs tiSize evSize evCrossings evSegmentsNow grEdges grQueued huSize huBestX huBestY : Int32} {scBytes scTold tiTouching tiLyingAlong evBundle evCrossingOf evEventOf evLeftEvent evRightEvent grDegree grFar grQueue huX huY : Nat → Int32} {enX enY enLower : Int64} {evX evY evLower : Nat → Int64} {S : Nat → xsV} {Rw : va_W} {g0Lx g0Ly g0Rx g0Ry g0Ti : Nat → Int32} {g0Sz : Int32} (hs_0 : S 0 = (g0Lx, g0Ly, g0Rx, g0Ry, g0Ti, g0Sz)) {a0 : Int32} {a1 : Int32} {out : (Int32) ⊕ (Nat × (Unit))} {ou : Nat → Int64} (hf : fX10_over g0Lx g0Ly g0Rx g0Ry g0Sz a0 a1 = some out) (hn : ∀ n tt, out = .inr (n, tt) → n = 1) : vx_Met l yL_over (Cond.codeWith yL_over cL_over 5 (some .int) [(0, 10, 13, 13)] :: xsGt) { frames := 8, cells := 1, slots := 6, locals := 136 } (xsP X (wK X kIsKept kIsStale hiLatest hiSize scBytes scTold scLength scFault scAt scNumber piSegmentsNow enKind enX enY enLower enFromX enFromY enToX enToY tiTouching tiLyingAlong tiMeetingPairs tiAlongPairs tiSize evX evY evLower evBundle evCrossingOf evEventOf evLeftEvent evRightEvent evSize evCrossings evSegmentsNow grDegree grEdges grFar grQueue grQueued huX huY huSize huBestX huBestY S (xsOc X ou :: Rw)) [.ref (xsA X 0), .int a0, .int a1, .ref (xsA X 131)]) (xsXi X (fun r u => (∃ tt, out = .inl tt ∧ r = 0 ∧ u = wK X kIsKept kIsStale hiLatest hiSize scBytes scTold scLength scFault scAt scNumber piSegmentsNow enKind enX enY enLower enFromX enFromY enToX enToY tiTouching tiLyingAlong tiMeetingPairs tiAlongPairs tiSize evX evY evLower evBundle evCrossingOf evEventOf evLeftEvent evRightEvent evSize evCrossings evSegmentsNow grDegree grEdges grFar grQueue grQueued huX huY huSize huBestX huBestY S (xsOc X (vp_updL ou 0 tt.toInt64) :: Rw)) ∨ (∃ n tt, out = .inr (n, tt) ∧ r = xsCd [(1, 1)] n ∧ u = wK X kIsKept kIsStale hiLatest hiSize scBytes scTold scLength scFault scAt scNumber piSegmentsNow enKind enX enY enLower enFromX enFromY enToX enToY tiTouching tiLyingAlong tiMeetingPairs tiAlongPairs tiSize evX evY evLower evBundle evCrossingOf evEventOf evLeftEvent evRightEvent evSize evCrossings evSegmentsNow grDegree grEdges grFar grQueue grQueued huX huY huSize huBestX huBestY S (xsOc X ou :: Rw)))) (fun _ _ _ => False) 1 6 (xsF X) := by
  refine xs_lmet RL (by decide) rfl (Nat.le_of_ble_eq_true rfl) ?_
  intro p e s m below meth c ls H locs C htab hP hD hS hr hlk hl
  have hx := C.1
  have hb := C.2.1
  have hl : lv_has ls 5 [(0, .ref (xsA X 0)), (1, .int a0), (2, .int a1), (3, .ref (xsA X 131))] := hl
  refine lv_aload_n hx hb dL_over_0 rfl (lv_at hl 3 rfl) ?_
  refine lv_iconst (v := 0) hx hb dL_over_1 (by decide) ?_
  refine lv_aload_n hx hb dL_over_2 rfl (lv_at hl 0 rfl) ?_
  refine lv_iload_n hx hb dL_over_3 rfl (lv_at hl 1 rfl) ?_
  refine lv_iload_n hx hb dL_over_4 rfl (lv_at hl 2 rfl) ?_
  refine xs_xcalli hS (xs_xrunV (As := [.int a0, .int a1]) (rest := [.int 0, .ref (xsA X 131)]) C (mX10_over l hst hs_0 hf) w_1291 w_1292 w_1293 w_105 w_1294 hd_X10_over ⟨rfl, rfl, Nat.le_of_ble_eq_true rfl, Nat.le_of_ble_eq_true rfl, Nat.le_of_ble_eq_true rfl, Nat.le_of_ble_eq_true rfl⟩ hP hD hS lk_X10 rfl hl.1 rfl (Nat.le_of_ble_eq_true rfl) dL_over_5) (fun n u q H locs hpx hP hD hS hq => ?_) (fun r u H locs hp hP hD hS => ?_)
  · obtain ⟨tx, e1, e2⟩ := hpx
    subst e2
    obtain ⟨ce, hq1, hq2, hq3⟩ := hq
    have en := hn n tx e1
    subst en
    refine vx_catch (own := RL) (name := "java/lang/IllegalArgumentException") (E := xsEx 1) C.2.2.2.1 [] ({ startPc := 0, endPc := 10, handlerPc := 13, catchType := 13 } : ExceptionTableEntry) [] htab (fun z hz => absurd hz List.not_mem_nil) (by decide) (by decide) (xs_kts C _ w_768) (xs_bd3 (n := 1) C _ List.mem_cons_self) hq1 hq2 hq3 ?_
    refine lv_astore (lv' := [(4, .ref q), (0, .ref (xsA X 0)), (1, .int a0), (2, .int a1), (3, .ref (xsA X 131))]) hx hb dL_over_13 hl (by decide) rfl (fun ls hl => ?_)
    refine lv_iconst (v := 1) hx hb dL_over_15 (by decide) ?_
    exact xs_xiret C hr hlk (Or.inr ⟨_, _, e1, rfl, rfl⟩) hP hD hS (Nat.le_of_ble_eq_true rfl) (Nat.le_of_ble_eq_true rfl) dL_over_16
  · obtain ⟨tx, e1, e2, e3⟩ := hp
    subst e3
    subst e2
    refine lv_i2l hx hb dL_over_8 rfl ?_
    refine xs_lout C hP hD hS dL_over_9 (fun H locs hP hD hS => ?_)
    refine lv_goto (tgt := 17) hx hb dL_over_10 (by decide) ?_
    refine lv_iconst (v := 0) hx hb dL_over_17 (by decide) ?_
    exact xs_xiret C hr hlk (Or.inl ⟨_, e1, rfl, rfl⟩) hP hD hS (Nat.le_of_ble_eq_true rfl) (Nat.le_of_ble_eq_true rfl) dL_over_18
set_option maxRecDepth 100000 in
set_option maxHeartbeats 8000000 in
theorem mL_sight (l : Launch) (hst : l.stackTraces = false) {X : xsX} {kIsKept kIsStale hiLatest hiSize scLength scFault scAt scNumber piSegmentsNow enKind enFromX enFromY enToX enToY tiMeetingPairs tiAlongPairs tiSize evSize evCrossings evSegmentsNow grEdges grQueued huSize huBestX huBestY : Int32} {scBytes scTold tiTouching tiLyingAlong evBundle evCrossingOf evEventOf evLeftEvent evRightEvent grDegree grFar grQueue huX huY : Nat → Int32} {enX enY enLower : Int64} {evX evY evLower : Nat → Int64} {S : Nat → xsV} {Rw : va_W} {g0Lx g0Ly g0Rx g0Ry g0Ti : Nat → Int32} {g0Sz : Int32} (hs_0 : S 0 = (g0Lx, g0Ly, g0Rx, g0Ry, g0Ti, g0Sz)) {g2Lx g2Ly g2Rx g2Ry g2Ti : Nat → Int32} {g2Sz : Int32} (hs_2 : S 2 = (g2Lx, g2Ly, g2Rx, g2Ry, g2Ti, g2Sz)) {a0 : Int32} {a1 : Int32} {a2 : Int32} {a3 : Int32} {out : (Int32 × Int32 × Int64 × Int64 × Int64 × Int32 × Int32 × Int32 × Int32 × (Nat → Int32) × (Nat → Int32) × (Nat → Int32) × (Nat → Int32)) ⊕ (Nat × (Int32 × Int64 × Int64 × Int64 × Int32 × Int32 × Int32 × Int32 × (Nat → Int32) × (Nat → Int32) × (Nat → Int32) × (Nat → Int32)))} {ou : Nat → Int64} (hf : fX10_sight enKind enX enY enLower enFromX enFromY enToX enToY g0Lx g0Ly g0Rx g0Ry g0Sz g2Lx g2Ly g2Rx g2Ry a0 a1 a2 a3 = some out) (hn : ∀ n tt, out = .inr (n, tt) → n = 1) : vx_Met l yL_sight (Cond.codeWith yL_sight cL_sight 7 (some .int) [(0, 14, 17, 13)] :: xsGt) { frames := 8, cells := 2, slots := 12, locals := 144 } (xsP X (wK X kIsKept kIsStale hiLatest hiSize scBytes scTold scLength scFault scAt scNumber piSegmentsNow enKind enX enY enLower enFromX enFromY enToX enToY tiTouching tiLyingAlong tiMeetingPairs tiAlongPairs tiSize evX evY evLower evBundle evCrossingOf evEventOf evLeftEvent evRightEvent evSize evCrossings evSegmentsNow grDegree grEdges grFar grQueue grQueued huX huY huSize huBestX huBestY S (xsOc X ou :: Rw)) [.ref (xsA X 0), .int a0, .int a1, .int a2, .int a3, .ref (xsA X 131)]) (xsXi X (fun r u => (∃ tt, out = .inl tt ∧ r = 0 ∧ u = wK X kIsKept kIsStale hiLatest hiSize scBytes scTold scLength scFault scAt scNumber piSegmentsNow tt.2.1 tt.2.2.1 tt.2.2.2.1 tt.2.2.2.2.1 tt.2.2.2.2.2.1 tt.2.2.2.2.2.2.1 tt.2.2.2.2.2.2.2.1 tt.2.2.2.2.2.2.2.2.1 tiTouching tiLyingAlong tiMeetingPairs tiAlongPairs tiSize evX evY evLower evBundle evCrossingOf evEventOf evLeftEvent evRightEvent evSize evCrossings evSegmentsNow grDegree grEdges grFar grQueue grQueued huX huY huSize huBestX huBestY (xsSu S 2 (tt.2.2.2.2.2.2.2.2.2.1, tt.2.2.2.2.2.2.2.2.2.2.1, tt.2.2.2.2.2.2.2.2.2.2.2.1, tt.2.2.2.2.2.2.2.2.2.2.2.2, g2Ti, g2Sz)) (xsOc X (vp_updL ou 0 tt.1.toInt64) :: Rw)) ∨ (∃ n tt, out = .inr (n, tt) ∧ r = xsCd [(1, 1)] n ∧ u = wK X kIsKept kIsStale hiLatest hiSize scBytes scTold scLength scFault scAt scNumber piSegmentsNow tt.1 tt.2.1 tt.2.2.1 tt.2.2.2.1 tt.2.2.2.2.1 tt.2.2.2.2.2.1 tt.2.2.2.2.2.2.1 tt.2.2.2.2.2.2.2.1 tiTouching tiLyingAlong tiMeetingPairs tiAlongPairs tiSize evX evY evLower evBundle evCrossingOf evEventOf evLeftEvent evRightEvent evSize evCrossings evSegmentsNow grDegree grEdges grFar grQueue grQueued huX huY huSize huBestX huBestY (xsSu S 2 (tt.2.2.2.2.2.2.2.2.1, tt.2.2.2.2.2.2.2.2.2.1, tt.2.2.2.2.2.2.2.2.2.2.1, tt.2.2.2.2.2.2.2.2.2.2.2, g2Ti, g2Sz)) (xsOc X ou :: Rw)))) (fun _ _ _ => False) 2 12 (xsF X) := by
  refine xs_lmet RL (by decide) rfl (Nat.le_of_ble_eq_true rfl) ?_
  intro p e s m below meth c ls H locs C htab hP hD hS hr hlk hl
  have hx := C.1
  have hb := C.2.1
  have hl : lv_has ls 7 [(0, .ref (xsA X 0)), (1, .int a0), (2, .int a1), (3, .int a2), (4, .int a3), (5, .ref (xsA X 131))] := hl
  refine lv_aload hx hb dL_sight_0 (lv_at hl 5 rfl) ?_
  refine lv_iconst (v := 0) hx hb dL_sight_2 (by decide) ?_
  refine lv_aload_n hx hb dL_sight_3 rfl (lv_at hl 0 rfl) ?_
  refine lv_iload_n hx hb dL_sight_4 rfl (lv_at hl 1 rfl) ?_
  refine lv_iload_n hx hb dL_sight_5 rfl (lv_at hl 2 rfl) ?_
  refine lv_iload_n hx hb dL_sight_6 rfl (lv_at hl 3 rfl) ?_
  refine lv_iload hx hb dL_sight_7 (lv_at hl 4 rfl) ?_
  refine xs_xcalli hS (xs_xrunV (As := [.int a0, .int a1, .int a2, .int a3]) (rest := [.int 0, .ref (xsA X 131)]) C (mX10_sight l hst hs_0 hs_2 hf) w_1298 w_1299 w_1300 w_105 w_1301 hd_X10_sight ⟨rfl, rfl, Nat.le_of_ble_eq_true rfl, Nat.le_of_ble_eq_true rfl, Nat.le_of_ble_eq_true rfl, Nat.le_of_ble_eq_true rfl⟩ hP hD hS lk_X10 rfl hl.1 rfl (Nat.le_of_ble_eq_true rfl) dL_sight_9) (fun n u q H locs hpx hP hD hS hq => ?_) (fun r u H locs hp hP hD hS => ?_)
  · obtain ⟨tx, e1, e2⟩ := hpx
    subst e2
    obtain ⟨ce, hq1, hq2, hq3⟩ := hq
    have en := hn n tx e1
    subst en
    refine vx_catch (own := RL) (name := "java/lang/IllegalArgumentException") (E := xsEx 1) C.2.2.2.1 [] ({ startPc := 0, endPc := 14, handlerPc := 17, catchType := 13 } : ExceptionTableEntry) [] htab (fun z hz => absurd hz List.not_mem_nil) (by decide) (by decide) (xs_kts C _ w_768) (xs_bd3 (n := 1) C _ List.mem_cons_self) hq1 hq2 hq3 ?_
    refine lv_astore (lv' := [(6, .ref q), (0, .ref (xsA X 0)), (1, .int a0), (2, .int a1), (3, .int a2), (4, .int a3), (5, .ref (xsA X 131))]) hx hb dL_sight_17 hl (by decide) rfl (fun ls hl => ?_)
    refine lv_iconst (v := 1) hx hb dL_sight_19 (by decide) ?_
    exact xs_xiret C hr hlk (Or.inr ⟨_, _, e1, rfl, rfl⟩) hP hD hS (Nat.le_of_ble_eq_true rfl) (Nat.le_of_ble_eq_true rfl) dL_sight_20
  · obtain ⟨tx, e1, e2, e3⟩ := hp
    subst e3
    subst e2
    refine lv_i2l hx hb dL_sight_12 rfl ?_
    refine xs_lout C hP hD hS dL_sight_13 (fun H locs hP hD hS => ?_)
    refine lv_goto (tgt := 21) hx hb dL_sight_14 (by decide) ?_
    refine lv_iconst (v := 0) hx hb dL_sight_21 (by decide) ?_
    exact xs_xiret C hr hlk (Or.inl ⟨_, e1, rfl, rfl⟩) hP hD hS (Nat.le_of_ble_eq_true rfl) (Nat.le_of_ble_eq_true rfl) dL_sight_22
set_option maxRecDepth 100000 in
set_option maxHeartbeats 8000000 in
theorem mL_box (l : Launch) (hst : l.stackTraces = false) {X : xsX} {kIsKept kIsStale hiLatest hiSize scLength scFault scAt scNumber piSegmentsNow enKind enFromX enFromY enToX enToY tiMeetingPairs tiAlongPairs tiSize evSize evCrossings evSegmentsNow grEdges grQueued huSize huBestX huBestY : Int32} {scBytes scTold tiTouching tiLyingAlong evBundle evCrossingOf evEventOf evLeftEvent evRightEvent grDegree grFar grQueue huX huY : Nat → Int32} {enX enY enLower : Int64} {evX evY evLower : Nat → Int64} {S : Nat → xsV} {Rw : va_W} {g0Lx g0Ly g0Rx g0Ry g0Ti : Nat → Int32} {g0Sz : Int32} (hs_0 : S 0 = (g0Lx, g0Ly, g0Rx, g0Ry, g0Ti, g0Sz)) {a0 : Int32} {a1 : Int32} {a2 : Int32} {a3 : Int32} {out : (Int32) ⊕ (Nat × (Unit))} {ou : Nat → Int64} (hf : fX10_box g0Lx g0Ly g0Rx g0Ry g0Sz a0 a1 a2 a3 = some out) (hn : ∀ n tt, out = .inr (n, tt) → n = 1) : vx_Met l yL_box (Cond.codeWith yL_box cL_box 7 (some .int) [(0, 14, 17, 13)] :: xsGt) { frames := 8, cells := 3, slots := 18, locals := 137 } (xsP X (wK X kIsKept kIsStale hiLatest hiSize scBytes scTold scLength scFault scAt scNumber piSegmentsNow enKind enX enY enLower enFromX enFromY enToX enToY tiTouching tiLyingAlong tiMeetingPairs tiAlongPairs tiSize evX evY evLower evBundle evCrossingOf evEventOf evLeftEvent evRightEvent evSize evCrossings evSegmentsNow grDegree grEdges grFar grQueue grQueued huX huY huSize huBestX huBestY S (xsOc X ou :: Rw)) [.ref (xsA X 0), .int a0, .int a1, .int a2, .int a3, .ref (xsA X 131)]) (xsXi X (fun r u => (∃ tt, out = .inl tt ∧ r = 0 ∧ u = wK X kIsKept kIsStale hiLatest hiSize scBytes scTold scLength scFault scAt scNumber piSegmentsNow enKind enX enY enLower enFromX enFromY enToX enToY tiTouching tiLyingAlong tiMeetingPairs tiAlongPairs tiSize evX evY evLower evBundle evCrossingOf evEventOf evLeftEvent evRightEvent evSize evCrossings evSegmentsNow grDegree grEdges grFar grQueue grQueued huX huY huSize huBestX huBestY S (xsOc X (vp_updL ou 0 tt.toInt64) :: Rw)) ∨ (∃ n tt, out = .inr (n, tt) ∧ r = xsCd [(1, 1)] n ∧ u = wK X kIsKept kIsStale hiLatest hiSize scBytes scTold scLength scFault scAt scNumber piSegmentsNow enKind enX enY enLower enFromX enFromY enToX enToY tiTouching tiLyingAlong tiMeetingPairs tiAlongPairs tiSize evX evY evLower evBundle evCrossingOf evEventOf evLeftEvent evRightEvent evSize evCrossings evSegmentsNow grDegree grEdges grFar grQueue grQueued huX huY huSize huBestX huBestY S (xsOc X ou :: Rw)))) (fun _ _ _ => False) 3 18 (xsF X) := by
  refine xs_lmet RL (by decide) rfl (Nat.le_of_ble_eq_true rfl) ?_
  intro p e s m below meth c ls H locs C htab hP hD hS hr hlk hl
  have hx := C.1
  have hb := C.2.1
  have hl : lv_has ls 7 [(0, .ref (xsA X 0)), (1, .int a0), (2, .int a1), (3, .int a2), (4, .int a3), (5, .ref (xsA X 131))] := hl
  refine lv_aload hx hb dL_box_0 (lv_at hl 5 rfl) ?_
  refine lv_iconst (v := 0) hx hb dL_box_2 (by decide) ?_
  refine lv_aload_n hx hb dL_box_3 rfl (lv_at hl 0 rfl) ?_
  refine lv_iload_n hx hb dL_box_4 rfl (lv_at hl 1 rfl) ?_
  refine lv_iload_n hx hb dL_box_5 rfl (lv_at hl 2 rfl) ?_
  refine lv_iload_n hx hb dL_box_6 rfl (lv_at hl 3 rfl) ?_
  refine lv_iload hx hb dL_box_7 (lv_at hl 4 rfl) ?_
  refine xs_xcalli hS (xs_xrunV (As := [.int a0, .int a1, .int a2, .int a3]) (rest := [.int 0, .ref (xsA X 131)]) C (mX10_box l hst hs_0 hf) w_1317 w_1318 w_1319 w_105 w_1320 hd_X10_box ⟨rfl, rfl, Nat.le_of_ble_eq_true rfl, Nat.le_of_ble_eq_true rfl, Nat.le_of_ble_eq_true rfl, Nat.le_of_ble_eq_true rfl⟩ hP hD hS lk_X10 rfl hl.1 rfl (Nat.le_of_ble_eq_true rfl) dL_box_9) (fun n u q H locs hpx hP hD hS hq => ?_) (fun r u H locs hp hP hD hS => ?_)
  · obtain ⟨tx, e1, e2⟩ := hpx
    subst e2
    obtain ⟨ce, hq1, hq2, hq3⟩ := hq
    have en := hn n tx e1
    subst en
    refine vx_catch (own := RL) (name := "java/lang/IllegalArgumentException") (E := xsEx 1) C.2.2.2.1 [] ({ startPc := 0, endPc := 14, handlerPc := 17, catchType := 13 } : ExceptionTableEntry) [] htab (fun z hz => absurd hz List.not_mem_nil) (by decide) (by decide) (xs_kts C _ w_768) (xs_bd3 (n := 1) C _ List.mem_cons_self) hq1 hq2 hq3 ?_
    refine lv_astore (lv' := [(6, .ref q), (0, .ref (xsA X 0)), (1, .int a0), (2, .int a1), (3, .int a2), (4, .int a3), (5, .ref (xsA X 131))]) hx hb dL_box_17 hl (by decide) rfl (fun ls hl => ?_)
    refine lv_iconst (v := 1) hx hb dL_box_19 (by decide) ?_
    exact xs_xiret C hr hlk (Or.inr ⟨_, _, e1, rfl, rfl⟩) hP hD hS (Nat.le_of_ble_eq_true rfl) (Nat.le_of_ble_eq_true rfl) dL_box_20
  · obtain ⟨tx, e1, e2, e3⟩ := hp
    subst e3
    subst e2
    refine lv_i2l hx hb dL_box_12 rfl ?_
    refine xs_lout C hP hD hS dL_box_13 (fun H locs hP hD hS => ?_)
    refine lv_goto (tgt := 21) hx hb dL_box_14 (by decide) ?_
    refine lv_iconst (v := 0) hx hb dL_box_21 (by decide) ?_
    exact xs_xiret C hr hlk (Or.inl ⟨_, e1, rfl, rfl⟩) hP hD hS (Nat.le_of_ble_eq_true rfl) (Nat.le_of_ble_eq_true rfl) dL_box_22
set_option maxRecDepth 100000 in
set_option maxHeartbeats 8000000 in
theorem mL_tinted (l : Launch) (hst : l.stackTraces = false) {X : xsX} {kIsKept kIsStale hiLatest hiSize scLength scFault scAt scNumber piSegmentsNow enKind enFromX enFromY enToX enToY tiMeetingPairs tiAlongPairs tiSize evSize evCrossings evSegmentsNow grEdges grQueued huSize huBestX huBestY : Int32} {scBytes scTold tiTouching tiLyingAlong evBundle evCrossingOf evEventOf evLeftEvent evRightEvent grDegree grFar grQueue huX huY : Nat → Int32} {enX enY enLower : Int64} {evX evY evLower : Nat → Int64} {S : Nat → xsV} {Rw : va_W} {g0Lx g0Ly g0Rx g0Ry g0Ti : Nat → Int32} {g0Sz : Int32} (hs_0 : S 0 = (g0Lx, g0Ly, g0Rx, g0Ry, g0Ti, g0Sz)) {a0 : Int32} {a1 : Int32} {out : (Int32 × Int32 × Int32 × Int32 × Int64 × Int64 × Int64 × Int32 × Int32 × Int32 × Int32 × (Nat → Int32) × (Nat → Int32) × Int32 × Int32 × Int32 × (Nat → Int64) × (Nat → Int64) × (Nat → Int64) × (Nat → Int32) × (Nat → Int32) × (Nat → Int32) × (Nat → Int32) × (Nat → Int32) × Int32 × Int32 × Int32 × (Nat → Int32) × Int32) ⊕ (Nat × (Int32 × Int32 × Int32 × Int64 × Int64 × Int64 × Int32 × Int32 × Int32 × Int32 × (Nat → Int32) × (Nat → Int32) × Int32 × Int32 × Int32 × (Nat → Int64) × (Nat → Int64) × (Nat → Int64) × (Nat → Int32) × (Nat → Int32) × (Nat → Int32) × (Nat → Int32) × (Nat → Int32) × Int32 × Int32 × Int32 × (Nat → Int32) × Int32))} {ou : Nat → Int64} (hf : fX10_tinted kIsStale piSegmentsNow enKind enX enY enLower enFromX enFromY enToX enToY tiTouching tiLyingAlong tiMeetingPairs tiAlongPairs tiSize evX evY evLower evBundle evCrossingOf evEventOf evLeftEvent evRightEvent evSize evCrossings evSegmentsNow grDegree grEdges g0Lx g0Ly g0Rx g0Ry g0Ti g0Sz a0 a1 = some out) (hn : ∀ n tt, out = .inr (n, tt) → n = 1) : vx_Met l yL_tinted (Cond.codeWith yL_tinted cL_tinted 5 (some .int) [(0, 10, 13, 13)] :: xsGt) { frames := 8, cells := 2, slots := 12, locals := 182 } (xsP X (wK X kIsKept kIsStale hiLatest hiSize scBytes scTold scLength scFault scAt scNumber piSegmentsNow enKind enX enY enLower enFromX enFromY enToX enToY tiTouching tiLyingAlong tiMeetingPairs tiAlongPairs tiSize evX evY evLower evBundle evCrossingOf evEventOf evLeftEvent evRightEvent evSize evCrossings evSegmentsNow grDegree grEdges grFar grQueue grQueued huX huY huSize huBestX huBestY S (xsOc X ou :: Rw)) [.ref (xsA X 0), .int a0, .int a1, .ref (xsA X 131)]) (xsXi X (fun r u => (∃ tt, out = .inl tt ∧ r = 0 ∧ u = wK X kIsKept tt.2.1 hiLatest hiSize scBytes scTold scLength scFault scAt scNumber tt.2.2.1 tt.2.2.2.1 tt.2.2.2.2.1 tt.2.2.2.2.2.1 tt.2.2.2.2.2.2.1 tt.2.2.2.2.2.2.2.1 tt.2.2.2.2.2.2.2.2.1 tt.2.2.2.2.2.2.2.2.2.1 tt.2.2.2.2.2.2.2.2.2.2.1 tt.2.2.2.2.2.2.2.2.2.2.2.1 tt.2.2.2.2.2.2.2.2.2.2.2.2.1 tt.2.2.2.2.2.2.2.2.2.2.2.2.2.1 tt.2.2.2.2.2.2.2.2.2.2.2.2.2.2.1 tt.2.2.2.2.2.2.2.2.2.2.2.2.2.2.2.1 tt.2.2.2.2.2.2.2.2.2.2.2.2.2.2.2.2.1 tt.2.2.2.2.2.2.2.2.2.2.2.2.2.2.2.2.2.1 tt.2.2.2.2.2.2.2.2.2.2.2.2.2.2.2.2.2.2.1 tt.2.2.2.2.2.2.2.2.2.2.2.2.2.2.2.2.2.2.2.1 tt.2.2.2.2.2.2.2.2.2.2.2.2.2.2.2.2.2.2.2.2.1 tt.2.2.2.2.2.2.2.2.2.2.2.2.2.2.2.2.2.2.2.2.2.1 tt.2.2.2.2.2.2.2.2.2.2.2.2.2.2.2.2.2.2.2.2.2.2.1 tt.2.2.2.2.2.2.2.2.2.2.2.2.2.2.2.2.2.2.2.2.2.2.2.1 tt.2.2.2.2.2.2.2.2.2.2.2.2.2.2.2.2.2.2.2.2.2.2.2.2.1 tt.2.2.2.2.2.2.2.2.2.2.2.2.2.2.2.2.2.2.2.2.2.2.2.2.2.1 tt.2.2.2.2.2.2.2.2.2.2.2.2.2.2.2.2.2.2.2.2.2.2.2.2.2.2.1 tt.2.2.2.2.2.2.2.2.2.2.2.2.2.2.2.2.2.2.2.2.2.2.2.2.2.2.2.1 tt.2.2.2.2.2.2.2.2.2.2.2.2.2.2.2.2.2.2.2.2.2.2.2.2.2.2.2.2 grFar grQueue grQueued huX huY huSize huBestX huBestY S (xsOc X (vp_updL ou 0 tt.1.toInt64) :: Rw)) ∨ (∃ n tt, out = .inr (n, tt) ∧ r = xsCd [(1, 1)] n ∧ u = wK X kIsKept tt.1 hiLatest hiSize scBytes scTold scLength scFault scAt scNumber tt.2.1 tt.2.2.1 tt.2.2.2.1 tt.2.2.2.2.1 tt.2.2.2.2.2.1 tt.2.2.2.2.2.2.1 tt.2.2.2.2.2.2.2.1 tt.2.2.2.2.2.2.2.2.1 tt.2.2.2.2.2.2.2.2.2.1 tt.2.2.2.2.2.2.2.2.2.2.1 tt.2.2.2.2.2.2.2.2.2.2.2.1 tt.2.2.2.2.2.2.2.2.2.2.2.2.1 tt.2.2.2.2.2.2.2.2.2.2.2.2.2.1 tt.2.2.2.2.2.2.2.2.2.2.2.2.2.2.1 tt.2.2.2.2.2.2.2.2.2.2.2.2.2.2.2.1 tt.2.2.2.2.2.2.2.2.2.2.2.2.2.2.2.2.1 tt.2.2.2.2.2.2.2.2.2.2.2.2.2.2.2.2.2.1 tt.2.2.2.2.2.2.2.2.2.2.2.2.2.2.2.2.2.2.1 tt.2.2.2.2.2.2.2.2.2.2.2.2.2.2.2.2.2.2.2.1 tt.2.2.2.2.2.2.2.2.2.2.2.2.2.2.2.2.2.2.2.2.1 tt.2.2.2.2.2.2.2.2.2.2.2.2.2.2.2.2.2.2.2.2.2.1 tt.2.2.2.2.2.2.2.2.2.2.2.2.2.2.2.2.2.2.2.2.2.2.1 tt.2.2.2.2.2.2.2.2.2.2.2.2.2.2.2.2.2.2.2.2.2.2.2.1 tt.2.2.2.2.2.2.2.2.2.2.2.2.2.2.2.2.2.2.2.2.2.2.2.2.1 tt.2.2.2.2.2.2.2.2.2.2.2.2.2.2.2.2.2.2.2.2.2.2.2.2.2.1 tt.2.2.2.2.2.2.2.2.2.2.2.2.2.2.2.2.2.2.2.2.2.2.2.2.2.2.1 tt.2.2.2.2.2.2.2.2.2.2.2.2.2.2.2.2.2.2.2.2.2.2.2.2.2.2.2 grFar grQueue grQueued huX huY huSize huBestX huBestY S (xsOc X ou :: Rw)))) (fun _ _ _ => False) 2 12 (xsF X) := by
  refine xs_lmet RL (by decide) rfl (Nat.le_of_ble_eq_true rfl) ?_
  intro p e s m below meth c ls H locs C htab hP hD hS hr hlk hl
  have hx := C.1
  have hb := C.2.1
  have hl : lv_has ls 5 [(0, .ref (xsA X 0)), (1, .int a0), (2, .int a1), (3, .ref (xsA X 131))] := hl
  refine lv_aload_n hx hb dL_tinted_0 rfl (lv_at hl 3 rfl) ?_
  refine lv_iconst (v := 0) hx hb dL_tinted_1 (by decide) ?_
  refine lv_aload_n hx hb dL_tinted_2 rfl (lv_at hl 0 rfl) ?_
  refine lv_iload_n hx hb dL_tinted_3 rfl (lv_at hl 1 rfl) ?_
  refine lv_iload_n hx hb dL_tinted_4 rfl (lv_at hl 2 rfl) ?_
  refine xs_xcalli hS (xs_xrunV (As := [.int a0, .int a1]) (rest := [.int 0, .ref (xsA X 131)]) C (mX10_tinted l hst hs_0 hf) w_1335 w_1336 w_1337 w_105 w_1338 hd_X10_tinted ⟨rfl, rfl, Nat.le_of_ble_eq_true rfl, Nat.le_of_ble_eq_true rfl, Nat.le_of_ble_eq_true rfl, Nat.le_of_ble_eq_true rfl⟩ hP hD hS lk_X10 rfl hl.1 rfl (Nat.le_of_ble_eq_true rfl) dL_tinted_5) (fun n u q H locs hpx hP hD hS hq => ?_) (fun r u H locs hp hP hD hS => ?_)
  · obtain ⟨tx, e1, e2⟩ := hpx
    subst e2
    obtain ⟨ce, hq1, hq2, hq3⟩ := hq
    have en := hn n tx e1
    subst en
    refine vx_catch (own := RL) (name := "java/lang/IllegalArgumentException") (E := xsEx 1) C.2.2.2.1 [] ({ startPc := 0, endPc := 10, handlerPc := 13, catchType := 13 } : ExceptionTableEntry) [] htab (fun z hz => absurd hz List.not_mem_nil) (by decide) (by decide) (xs_kts C _ w_768) (xs_bd3 (n := 1) C _ List.mem_cons_self) hq1 hq2 hq3 ?_
    refine lv_astore (lv' := [(4, .ref q), (0, .ref (xsA X 0)), (1, .int a0), (2, .int a1), (3, .ref (xsA X 131))]) hx hb dL_tinted_13 hl (by decide) rfl (fun ls hl => ?_)
    refine lv_iconst (v := 1) hx hb dL_tinted_15 (by decide) ?_
    exact xs_xiret C hr hlk (Or.inr ⟨_, _, e1, rfl, rfl⟩) hP hD hS (Nat.le_of_ble_eq_true rfl) (Nat.le_of_ble_eq_true rfl) dL_tinted_16
  · obtain ⟨tx, e1, e2, e3⟩ := hp
    subst e3
    subst e2
    refine lv_i2l hx hb dL_tinted_8 rfl ?_
    refine xs_lout C hP hD hS dL_tinted_9 (fun H locs hP hD hS => ?_)
    refine lv_goto (tgt := 17) hx hb dL_tinted_10 (by decide) ?_
    refine lv_iconst (v := 0) hx hb dL_tinted_17 (by decide) ?_
    exact xs_xiret C hr hlk (Or.inl ⟨_, e1, rfl, rfl⟩) hP hD hS (Nat.le_of_ble_eq_true rfl) (Nat.le_of_ble_eq_true rfl) dL_tinted_18
