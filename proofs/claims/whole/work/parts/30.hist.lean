theorem xsTh_use {α β γ : Type} {v : α} {kx : Nat → Option γ} {k : α → Option γ} {t : Option γ} (h : xsTh (β := β) (.inl v) kx k = t) : k v = t := h
theorem xsHs_ge (S h : Nat → xsV) : ∀ i, xsHs S h (4 + i) = h i := fun i => by
  unfold xsHs
  rw [if_neg (by omega), show 4 + i - 4 = i by omega]
theorem xs_in8 {i : Int32} (h : vp_in i 8) : 4 + i.toNatClampNeg < 12 := by
  obtain ⟨j, hj, e⟩ := vp_in_of h (by decide)
  rw [e, nI_clamp (by omega)]
  omega
theorem xs_hsu {S hist : Nat → xsV} (h : ∀ i, S (4 + i) = hist i) {i : Nat} {v : xsV} : xsSu S (4 + i) v = xsHs S (xsSu hist i v) := by
  funext j
  unfold xsSu xsHs
  by_cases h4 : j < 4
  · rw [if_pos h4, if_neg (by omega)]
  · rw [if_neg h4]
    by_cases e : j = 4 + i
    · rw [if_pos e, if_pos (by omega)]
    · rw [if_neg e, if_neg (by omega), ← h, show 4 + (j - 4) = j by omega]
theorem xsHs_selfH {S hist : Nat → xsV} (h : ∀ i, S (4 + i) = hist i) : xsHs S hist = S := by
  have e : hist = fun i => S (4 + i) := by funext i; exact (h i).symm
  rw [e]; exact xsHs_self S
section XSHI
variable {p : Program} {l : Launch} {e : Env} {R : Room} {s : State} {m : MethodId} {args : Array Value} {below : List Frame} {meth : Method} {c : Code} {H : Heap} {locs : List Loc} {cells slots : Nat} {Q : State → Prop}
variable {cc : ByteArray} {pc nL : Nat} {ls : Array Slot} {rest : List Value} {own : String} {X : xsX} {S : Nat → xsV} {Rw : va_W}
variable {kIsKept kIsStale hiLatest hiSize scLength scFault scAt scNumber piSegmentsNow enKind enFromX enFromY enToX enToY tiMeetingPairs tiAlongPairs tiSize evSize evCrossings evSegmentsNow grEdges grQueued huSize huBestX huBestY : Int32} {scBytes scTold tiTouching tiLyingAlong evBundle evCrossingOf evEventOf evLeftEvent evRightEvent grDegree grFar grQueue huX huY : Nat → Int32} {enX enY enLower : Int64} {evX evY evLower : Nat → Int64}
theorem xl_rows (C : xsC p s m c cc args own nL X) (hP : va_P (xsD X) vwCl (wK X kIsKept kIsStale hiLatest hiSize scBytes scTold scLength scFault scAt scNumber piSegmentsNow enKind enX enY enLower enFromX enFromY enToX enToY tiTouching tiLyingAlong tiMeetingPairs tiAlongPairs tiSize evX evY evLower evBundle evCrossingOf evEventOf evLeftEvent evRightEvent evSize evCrossings evSegmentsNow grDegree grEdges grFar grQueue grQueued huX huY huSize huBestX huBestY S Rw) H) {i : Int32} (hin : vp_in i 8) (d : decode cc pc = .ok (.aaload, 1)) (kk : W p l e R s m args below meth c H locs cells slots Q (F0 m (pc + 1) ls (.ref (xsA X (27 + 6 * (4 + i.toNatClampNeg))) :: rest))) : W p l e R s m args below meth c H locs cells slots Q (F0 m pc ls (.int i :: .ref (xsA X 2) :: rest)) :=
  va_aldq C.1 C.2.1 C.2.2.2.2.2.1 hP 2 3 rfl rfl hin d kk
end XSHI
theorem xsSu_comm {S : Nat → xsV} {i j : Nat} {u v : xsV} (h : i ≠ j) : xsSu (xsSu S i u) j v = xsSu (xsSu S j v) i u := by
  funext k
  unfold xsSu
  by_cases e1 : k = i
  · rw [if_pos e1, if_pos e1, if_neg (by omega)]
  · rw [if_neg e1, if_neg e1]
