theorem xsTh_use {α β γ : Type} {v : α} {kx : Nat → Option γ} {k : α → Option γ} {t : Option γ} (h : xsTh (β := β) (.inl v) kx k = t) : k v = t := h
theorem xsHs_ge (S h : Nat → xsV) : ∀ i, xsHs S h (4 + i) = h i := fun i => by
  unfold xsHs
  rw [if_neg (by omega), show 4 + i - 4 = i by omega]
theorem xs_in8 {i : Int32} (h : vp_in i 8) : 4 + i.toNatClampNeg < 12 := by
  obtain ⟨j, hj, e⟩ := vp_in_of h (by decide)
  rw [e, nI_clamp (by omega)]
  omega
theorem xs_hsu {S hist : Nat → xsV} (h : ∀ i, S (4 + i) = hist i) {i : Nat} {v : xsV} : xsSu S (4 + i) v = xsHs S (xsSu hist i v) := by
  funext j
  unfold xsSu xsHs
  by_cases h4 : j < 4
  · rw [if_pos h4, if_neg (by omega)]
  · rw [if_neg h4]
    by_cases e : j = 4 + i
    · rw [if_pos e]
      show v = if j - 4 = i then v else hist (j - 4)
      rw [if_pos (by omega)]
    · rw [if_neg e]
      show S j = if j - 4 = i then v else hist (j - 4)
      rw [if_neg (by omega), ← h, show 4 + (j - 4) = j by omega]
theorem xsHs_selfH {S hist : Nat → xsV} (h : ∀ i, S (4 + i) = hist i) : xsHs S hist = S := by
  have e : hist = fun i => S (4 + i) := by funext i; exact (h i).symm
  rw [e]; exact xsHs_self S
section XSHI
variable {p : Program} {l : Launch} {e : Env} {R : Room} {s : State} {m : MethodId} {args : Array Value} {below : List Frame} {meth : Method} {c : Code} {H : Heap} {locs : List Loc} {cells slots : Nat} {Q : State → Prop}
variable {cc : ByteArray} {pc nL : Nat} {ls : Array Slot} {rest : List Value} {own : String} {X : xsX} {S : Nat → xsV} {Rw : va_W}
variable {kIsKept kIsStale hiLatest hiSize scLength scFault scAt scNumber piSegmentsNow enKind enFromX enFromY enToX enToY tiMeetingPairs tiAlongPairs tiSize evSize evCrossings evSegmentsNow grEdges grQueued huSize huBestX huBestY : Int32} {scBytes scTold tiTouching tiLyingAlong evBundle evCrossingOf evEventOf evLeftEvent evRightEvent grDegree grFar grQueue huX huY : Nat → Int32} {enX enY enLower : Int64} {evX evY evLower : Nat → Int64}
theorem xl_rows (C : xsC p s m c cc args own nL X) (hP : va_P (xsD X) vwCl (wK X kIsKept kIsStale hiLatest hiSize scBytes scTold scLength scFault scAt scNumber piSegmentsNow enKind enX enY enLower enFromX enFromY enToX enToY tiTouching tiLyingAlong tiMeetingPairs tiAlongPairs tiSize evX evY evLower evBundle evCrossingOf evEventOf evLeftEvent evRightEvent evSize evCrossings evSegmentsNow grDegree grEdges grFar grQueue grQueued huX huY huSize huBestX huBestY S Rw) H) {i : Int32} (hin : vp_in i 8) (d : decode cc pc = .ok (.aaload, 1)) (kk : W p l e R s m args below meth c H locs cells slots Q (F0 m (pc + 1) ls (.ref (xsA X (27 + 6 * (4 + i.toNatClampNeg))) :: rest))) : W p l e R s m args below meth c H locs cells slots Q (F0 m pc ls (.int i :: .ref (xsA X 2) :: rest)) :=
  va_aldq C.1 C.2.1 C.2.2.2.2.2.1 hP 2 3 rfl rfl hin d kk
end XSHI
theorem xsSu_comm {S : Nat → xsV} {i j : Nat} {u v : xsV} (h : i ≠ j) : xsSu (xsSu S i u) j v = xsSu (xsSu S j v) i u := by
  funext k
  unfold xsSu
  by_cases e1 : k = i
  · rw [if_pos e1, if_pos e1, if_neg (by omega)]
  · rw [if_neg e1, if_neg e1]
-- class links
theorem w_131 : Cond.classLink RL 8 RX10 ∈ xsGt := xs_w (xsT1 _ (List.mem_of_getElem? (i := 27) rfl)) rfl
theorem w_139 : Cond.classLink RX10 7 RX7 ∈ xsGt := xs_w (xsT1 _ (List.mem_of_getElem? (i := 35) rfl)) rfl
theorem w_195 : Cond.classLink RX10 22 RX3 ∈ xsGt := xs_w (xsT1 _ (List.mem_of_getElem? (i := 91) rfl)) rfl
theorem w_201 : Cond.classLink RX3 9 RX7 ∈ xsGt := xs_w (xsT1 _ (List.mem_of_getElem? (i := 97) rfl)) rfl
theorem w_215 : Cond.classLink RX10 29 RX6 ∈ xsGt := xs_w (xsT1 _ (List.mem_of_getElem? (i := 111) rfl)) rfl
theorem w_221 : Cond.classLink RX6 19 RX7 ∈ xsGt := xs_w (xsT1 _ (List.mem_of_getElem? (i := 117) rfl)) rfl
theorem w_249 : Cond.classLink RX10 36 RX5 ∈ xsGt := xs_w (xsT1 _ (List.mem_of_getElem? (i := 145) rfl)) rfl
theorem w_255 : Cond.classLink RX5 9 RX0 ∈ xsGt := xs_w (xsT1 _ (List.mem_of_getElem? (i := 151) rfl)) rfl
theorem w_298 : Cond.classLink RX5 18 RX9 ∈ xsGt := xs_w (xsT1 _ (List.mem_of_getElem? (i := 194) rfl)) rfl
theorem w_323 : Cond.classLink RX5 25 RX1 ∈ xsGt := xs_w (xsT1 _ (List.mem_of_getElem? (i := 219) rfl)) rfl
theorem w_382 : Cond.classLink RX5 32 RX2 ∈ xsGt := xs_w (xsT2 _ (List.mem_of_getElem? (i := 38) rfl)) rfl
theorem w_427 : Cond.classLink RX10 43 RX4 ∈ xsGt := xs_w (xsT2 _ (List.mem_of_getElem? (i := 83) rfl)) rfl
theorem w_768 : Cond.classLink RL 13 "java/lang/IllegalArgumentException" ∈ xsGt := xs_w (xsT3 _ (List.mem_of_getElem? (i := 184) rfl)) rfl
theorem w_907 : Cond.classLink RX10 80 "java/lang/IllegalArgumentException" ∈ xsGt := xs_w (xsT4 _ (List.mem_of_getElem? (i := 83) rfl)) rfl
theorem w_978 : Cond.classLink RL 19 "java/lang/IllegalStateException" ∈ xsGt := xs_w (xsT4 _ (List.mem_of_getElem? (i := 154) rfl)) rfl
theorem w_993 : Cond.classLink RX10 107 "java/lang/IllegalStateException" ∈ xsGt := xs_w (xsT4 _ (List.mem_of_getElem? (i := 169) rfl)) rfl
theorem w_1013 : Cond.classLink RL 25 "java/lang/IndexOutOfBoundsException" ∈ xsGt := xs_w (xsT4 _ (List.mem_of_getElem? (i := 189) rfl)) rfl
theorem w_1025 : Cond.classLink RX10 419 "java/lang/IndexOutOfBoundsException" ∈ xsGt := xs_w (xsT4 _ (List.mem_of_getElem? (i := 201) rfl)) rfl
theorem w_1074 : Cond.classLink RL 41 "java/util/NoSuchElementException" ∈ xsGt := xs_w (xsT5 _ (List.mem_of_getElem? (i := 10) rfl)) rfl
theorem w_1095 : Cond.classLink RX10 197 "java/util/NoSuchElementException" ∈ xsGt := xs_w (xsT5 _ (List.mem_of_getElem? (i := 31) rfl)) rfl
theorem w_1347 : Cond.classLink RL 103 RX11 ∈ xsGt := xs_w (xsT6 _ (List.mem_of_getElem? (i := 43) rfl)) rfl
