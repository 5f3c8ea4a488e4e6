section XSR
variable {p : Program} {l : Launch} {e : Env} {R : Room} {s : State} {m : MethodId} {args : Array Value} {below : List Frame} {meth : Method} {c : Code} {H : Heap} {locs : List Loc} {cells slots : Nat} {Q : State → Prop}
variable {cc : ByteArray} {pc nL index : Nat} {ls : Array Slot} {rest st As : List Value} {own : String} {X : xsX} {w w' : va_W} {a q0 ci N k n : Nat} {Cn : String} {T : u_T} {fs : List Value} {v : Value}
theorem xs_kts (C : xsC p s m c cc args own nL X) : ∀ w ∈ xsGt, w.before args s = true := C.2.2.2.2.1
theorem xs_get (C : xsC p s m c cc args own nL X) (hP : va_P (xsD X) vwCl w H) (he : w[q0]? = some (a, .inr (ci, fs))) (hc : vwCl[ci]? = some (Cn, T, N)) (hin : ∀ w ∈ u_ws Cn T N, w ∈ xsGt) (hk : k < N) (hlink : Cond.fieldLink own index (T k).1 (T k).2.1 (T k).2.2.1 ∈ xsGt) (hv : fs[k]? = some v) (hdg : decode cc pc = .ok (.getfield index, 3))
    (kk : W p l e R s m args below meth c H locs cells slots Q (F0 m (pc + 3) ls (v :: rest))) : W p l e R s m args below meth c H locs cells slots Q (F0 m pc ls (.ref a :: rest)) :=
  va_get C.1 C.2.1 (xs_kts C) hin C.2.2.2.1 C.2.2.2.2.2.1 hP q0 he hc k hk (xs_kts C _ hlink) (fun _ h => h) hv hdg kk
theorem xs_put (C : xsC p s m c cc args own nL X) (hP : va_P (xsD X) vwCl w H) (hD : va_D (xsF X) w) (hS : va_S (xsF X) s.heap H locs) (he : w[q0]? = some (a, .inr (ci, fs))) (hc : vwCl[ci]? = some (Cn, T, N)) (hin : ∀ w ∈ u_ws Cn T N, w ∈ xsGt) (ty0 : Nat → FieldType) (hty : ∀ k, k < N → parseFieldDescriptor (T k).2.2.1 = some (ty0 k)) (hnm : ∀ a, a < N → ∀ b, b < N → a ≠ b → (T a).2.1 ≠ (T b).2.1) (hk : k < N) (hlink : Cond.fieldLink own index (T k).1 (T k).2.1 (T k).2.2.1 ∈ xsGt) (hfin : (T k).2.2.2 = false) (hn : narrow (ty0 k) v = v) (hfit : fits (ty0 k) v = true) (hl : k < fs.length) (hw : w.set q0 (a, .inr (ci, fs.set k v)) = w') (hdg : decode cc pc = .ok (.putfield index, 3))
    (kk : ∀ (H1 : Heap) (locs1 : List Loc), va_P (xsD X) vwCl w' H1 → va_D (xsF X) w' → va_S (xsF X) s.heap H1 locs1 → W p l e R s m args below meth c H1 locs1 cells slots Q (F0 m (pc + 3) ls rest)) : W p l e R s m args below meth c H locs cells slots Q (F0 m pc ls (v :: .ref a :: rest)) := by
  subst hw
  exact va_put C.1 C.2.1 (xs_kts C) hin ty0 hty hnm C.2.2.2.1 C.2.2.2.2.2.1 hP hD hS q0 he hc k hk (xs_kts C _ hlink) (fun _ h => h) hfin (hty k hk) hn hfit hl hdg kk
theorem xs_iald (C : xsC p s m c cc args own nL X) (hP : va_P (xsD X) vwCl w H) {f : Nat → Int32} (ha : w[q0]? = some (a, .inl (xsCI X, n, .inl f))) {i : Int32} (hin : vp_in i n) (hdg : decode cc pc = .ok (.iaload, 1))
    (kk : W p l e R s m args below meth c H locs cells slots Q (F0 m (pc + 1) ls (.int (f i.toNatClampNeg) :: rest))) : W p l e R s m args below meth c H locs cells slots Q (F0 m pc ls (.int i :: .ref a :: rest)) :=
  va_iald C.1 C.2.1 C.2.2.2.2.2.1 hP q0 1 ha rfl hin hdg kk
theorem xs_bald (C : xsC p s m c cc args own nL X) (hP : va_P (xsD X) vwCl w H) {f : Nat → Int32} (ha : w[q0]? = some (a, .inl (xsCB X, n, .inl f))) {i : Int32} (hin : vp_in i n) (hdg : decode cc pc = .ok (.baload, 1))
    (kk : W p l e R s m args below meth c H locs cells slots Q (F0 m (pc + 1) ls (.int (f i.toNatClampNeg) :: rest))) : W p l e R s m args below meth c H locs cells slots Q (F0 m pc ls (.int i :: .ref a :: rest)) :=
  va_bald C.1 C.2.1 C.2.2.2.2.2.1 hP q0 0 ha rfl hin hdg kk
theorem xs_lald (C : xsC p s m c cc args own nL X) (hP : va_P (xsD X) vwCl w H) {f : Nat → Int64} (ha : w[q0]? = some (a, .inl (xsCJ X, n, .inr (.inl f)))) {i : Int32} (hin : vp_in i n) (hdg : decode cc pc = .ok (.laload, 1))
    (kk : W p l e R s m args below meth c H locs cells slots Q (F0 m (pc + 1) ls (.long (f i.toNatClampNeg) :: rest))) : W p l e R s m args below meth c H locs cells slots Q (F0 m pc ls (.int i :: .ref a :: rest)) :=
  va_lald C.1 C.2.1 C.2.2.2.2.2.1 hP q0 2 ha rfl hin hdg kk
theorem xs_iast (C : xsC p s m c cc args own nL X) (hP : va_P (xsD X) vwCl w H) (hD : va_D (xsF X) w) (hS : va_S (xsF X) s.heap H locs) {f : Nat → Int32} (ha : w[q0]? = some (a, .inl (xsCI X, n, .inl f))) {i x : Int32} (w1 : (Nat → Int32) → va_W) (hw : ∀ f', w.set q0 (a, .inl (xsCI X, n, .inl f')) = w1 f') (hin : vp_in i n) (hdg : decode cc pc = .ok (.iastore, 1))
    (kk : ∀ (f' : Nat → Int32), f' = upd f i.toNatClampNeg x → ∀ (H1 : Heap) (locs1 : List Loc), va_P (xsD X) vwCl (w1 f') H1 → va_D (xsF X) (w1 f') → va_S (xsF X) s.heap H1 locs1 → W p l e R s m args below meth c H1 locs1 cells slots Q (F0 m (pc + 1) ls rest)) : W p l e R s m args below meth c H locs cells slots Q (F0 m pc ls (.int x :: .int i :: .ref a :: rest)) :=
  va_iast C.1 C.2.1 C.2.2.2.2.2.1 hP hD hS q0 1 ha rfl hin hdg (fun H1 locs1 h1 h2 h3 => kk _ rfl H1 locs1 (hw _ ▸ h1) (hw _ ▸ h2) h3)
theorem xs_bast (C : xsC p s m c cc args own nL X) (hP : va_P (xsD X) vwCl w H) (hD : va_D (xsF X) w) (hS : va_S (xsF X) s.heap H locs) {f : Nat → Int32} (ha : w[q0]? = some (a, .inl (xsCB X, n, .inl f))) {i x : Int32} (w1 : (Nat → Int32) → va_W) (hw : ∀ f', w.set q0 (a, .inl (xsCB X, n, .inl f')) = w1 f') (hin : vp_in i n) (hdg : decode cc pc = .ok (.bastore, 1))
    (kk : ∀ (f' : Nat → Int32), f' = upd f i.toNatClampNeg x.toInt8.toInt32 → ∀ (H1 : Heap) (locs1 : List Loc), va_P (xsD X) vwCl (w1 f') H1 → va_D (xsF X) (w1 f') → va_S (xsF X) s.heap H1 locs1 → W p l e R s m args below meth c H1 locs1 cells slots Q (F0 m (pc + 1) ls rest)) : W p l e R s m args below meth c H locs cells slots Q (F0 m pc ls (.int x :: .int i :: .ref a :: rest)) :=
  va_bast C.1 C.2.1 C.2.2.2.2.2.1 hP hD hS q0 0 ha rfl hin hdg (fun H1 locs1 h1 h2 h3 => kk _ rfl H1 locs1 (by rw [vp_nar_byte] at h1; exact hw _ ▸ h1) (by rw [vp_nar_byte] at h2; exact hw _ ▸ h2) h3)
theorem xs_last (C : xsC p s m c cc args own nL X) (hP : va_P (xsD X) vwCl w H) (hD : va_D (xsF X) w) (hS : va_S (xsF X) s.heap H locs) {f : Nat → Int64} (ha : w[q0]? = some (a, .inl (xsCJ X, n, .inr (.inl f)))) {i : Int32} {x : Int64} (w1 : (Nat → Int64) → va_W) (hw : ∀ f', w.set q0 (a, .inl (xsCJ X, n, .inr (.inl f'))) = w1 f') (hin : vp_in i n) (hdg : decode cc pc = .ok (.lastore, 1))
    (kk : ∀ (f' : Nat → Int64), f' = vp_updL f i.toNatClampNeg x → ∀ (H1 : Heap) (locs1 : List Loc), va_P (xsD X) vwCl (w1 f') H1 → va_D (xsF X) (w1 f') → va_S (xsF X) s.heap H1 locs1 → W p l e R s m args below meth c H1 locs1 cells slots Q (F0 m (pc + 1) ls rest)) : W p l e R s m args below meth c H locs cells slots Q (F0 m pc ls (.long x :: .int i :: .ref a :: rest)) :=
  va_last C.1 C.2.1 C.2.2.2.2.2.1 hP hD hS q0 2 ha rfl hin hdg (fun H1 locs1 h1 h2 h3 => kk _ rfl H1 locs1 (hw _ ▸ h1) (hw _ ▸ h2) h3)
/-! long compares with the branch behind them -/
theorem xs_cmp (x y : Int64) : (lg_cmp x y = 0 ↔ x = y) ∧ (lg_cmp x y < 0 ↔ x < y) ∧ (0 ≤ lg_cmp x y ↔ y ≤ x) ∧ (0 < lg_cmp x y ↔ y < x) ∧ (lg_cmp x y ≤ 0 ↔ x ≤ y) := by
  unfold lg_cmp
  simp only [gt_iff_lt, Int64.lt_iff_toInt_lt, Int64.le_iff_toInt_le, ← Int64.toInt_inj]
  refine ⟨?_, ?_, ?_, ?_, ?_⟩ <;> (repeat' split) <;> (constructor <;> intro hh <;> first | omega | decide | exact absurd hh (by decide))
theorem xs_lcmp_eq (C : xsC p s m c cc args own nL X) {x y : Int64} {off : Int} {tgt : Nat} (d0 : decode cc pc = .ok (.lcmp, 1)) (d1 : decode cc (pc + 1) = .ok (.ifCond .eq off, 3)) (ht : ((pc + 1 : Nat) : Int) + off = (tgt : Int))
    (kt : x = y → W p l e R s m args below meth c H locs cells slots Q (F0 m tgt ls rest)) (kf : ¬ x = y → W p l e R s m args below meth c H locs cells slots Q (F0 m (pc + 4) ls rest)) : W p l e R s m args below meth c H locs cells slots Q (F0 m pc ls (.long y :: .long x :: rest)) :=
  W.lcmp C.1 C.2.1 d0 (lv_if_eq C.1 C.2.1 d1 ht (fun h => kt ((xs_cmp x y).1.mp h)) (fun h => kf (fun q => h ((xs_cmp x y).1.mpr q))))
theorem xs_lcmp_ne (C : xsC p s m c cc args own nL X) {x y : Int64} {off : Int} {tgt : Nat} (d0 : decode cc pc = .ok (.lcmp, 1)) (d1 : decode cc (pc + 1) = .ok (.ifCond .ne off, 3)) (ht : ((pc + 1 : Nat) : Int) + off = (tgt : Int))
    (kt : ¬ x = y → W p l e R s m args below meth c H locs cells slots Q (F0 m tgt ls rest)) (kf : x = y → W p l e R s m args below meth c H locs cells slots Q (F0 m (pc + 4) ls rest)) : W p l e R s m args below meth c H locs cells slots Q (F0 m pc ls (.long y :: .long x :: rest)) :=
  W.lcmp C.1 C.2.1 d0 (lv_if_ne C.1 C.2.1 d1 ht (fun h => kt (fun q => h ((xs_cmp x y).1.mpr q))) (fun h => kf ((xs_cmp x y).1.mp h)))
theorem xs_lcmp_lt (C : xsC p s m c cc args own nL X) {x y : Int64} {off : Int} {tgt : Nat} (d0 : decode cc pc = .ok (.lcmp, 1)) (d1 : decode cc (pc + 1) = .ok (.ifCond .lt off, 3)) (ht : ((pc + 1 : Nat) : Int) + off = (tgt : Int))
    (kt : x < y → W p l e R s m args below meth c H locs cells slots Q (F0 m tgt ls rest)) (kf : ¬ x < y → W p l e R s m args below meth c H locs cells slots Q (F0 m (pc + 4) ls rest)) : W p l e R s m args below meth c H locs cells slots Q (F0 m pc ls (.long y :: .long x :: rest)) :=
  W.lcmp C.1 C.2.1 d0 (lv_if_lt C.1 C.2.1 d1 ht (fun h => kt ((xs_cmp x y).2.1.mp h)) (fun h => kf (fun q => h ((xs_cmp x y).2.1.mpr q))))
theorem xs_lcmp_ge (C : xsC p s m c cc args own nL X) {x y : Int64} {off : Int} {tgt : Nat} (d0 : decode cc pc = .ok (.lcmp, 1)) (d1 : decode cc (pc + 1) = .ok (.ifCond .ge off, 3)) (ht : ((pc + 1 : Nat) : Int) + off = (tgt : Int))
    (kt : y ≤ x → W p l e R s m args below meth c H locs cells slots Q (F0 m tgt ls rest)) (kf : ¬ y ≤ x → W p l e R s m args below meth c H locs cells slots Q (F0 m (pc + 4) ls rest)) : W p l e R s m args below meth c H locs cells slots Q (F0 m pc ls (.long y :: .long x :: rest)) :=
  W.lcmp C.1 C.2.1 d0 (lv_if_ge C.1 C.2.1 d1 ht (fun h => kt ((xs_cmp x y).2.2.1.mp h)) (fun h => kf (fun q => h ((xs_cmp x y).2.2.1.mpr q))))
theorem xs_lcmp_gt (C : xsC p s m c cc args own nL X) {x y : Int64} {off : Int} {tgt : Nat} (d0 : decode cc pc = .ok (.lcmp, 1)) (d1 : decode cc (pc + 1) = .ok (.ifCond .gt off, 3)) (ht : ((pc + 1 : Nat) : Int) + off = (tgt : Int))
    (kt : y < x → W p l e R s m args below meth c H locs cells slots Q (F0 m tgt ls rest)) (kf : ¬ y < x → W p l e R s m args below meth c H locs cells slots Q (F0 m (pc + 4) ls rest)) : W p l e R s m args below meth c H locs cells slots Q (F0 m pc ls (.long y :: .long x :: rest)) :=
  W.lcmp C.1 C.2.1 d0 (lv_if_gt C.1 C.2.1 d1 ht (fun h => kt ((xs_cmp x y).2.2.2.1.mp h)) (fun h => kf (fun q => h ((xs_cmp x y).2.2.2.1.mpr q))))
theorem xs_lcmp_le (C : xsC p s m c cc args own nL X) {x y : Int64} {off : Int} {tgt : Nat} (d0 : decode cc pc = .ok (.lcmp, 1)) (d1 : decode cc (pc + 1) = .ok (.ifCond .le off, 3)) (ht : ((pc + 1 : Nat) : Int) + off = (tgt : Int))
    (kt : x ≤ y → W p l e R s m args below meth c H locs cells slots Q (F0 m tgt ls rest)) (kf : ¬ x ≤ y → W p l e R s m args below meth c H locs cells slots Q (F0 m (pc + 4) ls rest)) : W p l e R s m args below meth c H locs cells slots Q (F0 m pc ls (.long y :: .long x :: rest)) :=
  W.lcmp C.1 C.2.1 d0 (lv_if_le C.1 C.2.1 d1 ht (fun h => kt ((xs_cmp x y).2.2.2.2.mp h)) (fun h => kf (fun q => h ((xs_cmp x y).2.2.2.2.mpr q))))
/-! calls -/
variable {y : MethodName} {b : ByteArray} {nM : Nat} {ret : Option FieldType} {rm : Room} {Qc : Array Value → State → Outcome → State → Prop}
theorem xs_gws (hcd : Cond.code y b nM ret ∈ xsGt) : GoodIn xsGt (xsWs y b nM ret) := fun w h => by
  rcases List.mem_cons.mp h with e | e
  · rw [e]; exact xsGoodIn _ hcd
  · exact xsGoodIn _ e
theorem xs_runV (C : xsC p s m c cc args own nL X) (hM : Met l y (xsWs y b nM ret) rm (xsP X w (.ref a :: As)) Qc 0 0 (xsF X)) (hl : Cond.methodLink own index y ∈ xsGt) (hi : Cond.instanceMethod y ∈ xsGt) (hs : Cond.selects y.cls y y ∈ xsGt) (hini : Cond.initialized y.cls ∈ xsGt) (hcd : Cond.code y b nM ret ∈ xsGt)
    (hd : y.cls ≠ "java/lang/invoke/MethodHandle" ∧ y.cls ≠ "java/lang/invoke/VarHandle" ∧ (parseMethodDescriptor y.desc).map (fun d => d.parameters.length) = some As.length) (hr : rm.cells = 0 ∧ rm.slots = 0 ∧ rm.frames + 1 ≤ R.frames ∧ 8 + (nM + 11) + rm.locals ≤ R.locals ∧ cells ≤ R.cells ∧ slots ≤ R.slots)
    (hP : va_P (xsD X) vwCl w H) (hD : va_D (xsF X) w) (hS : va_S (xsF X) s.heap H locs) (he : w[q0]? = some (a, .inr (ci, fs))) (hc : vwCl[ci]? = some (y.cls, T, N)) (hls : ls.size = nL) (hst : st = As.reverse ++ .ref a :: rest) (hcat : (rest.map fun v => v.category).sum ≤ 8) (hdg : decode cc pc = .ok (.invokevirtual index, 3)) :
    va_Run p l e R s m args below meth c H locs cells slots 0 0 (F0 m pc ls st) rest (Qc (Value.ref a :: As).toArray) (xsF X) := by
  obtain ⟨h1, h2, h3, h4, h5, h6⟩ := hr
  have hG : GoodIn xsGt (wsV own index y.cls y (xsWs y b nM ret)) := fun w h => by
    rcases List.mem_append.mp h with h | h
    · refine xsGoodIn _ ?_
      simp only [List.mem_cons, List.mem_nil_iff, or_false] at h
      rcases h with rfl | rfl | rfl | rfl
      · exact hl
      · exact hi
      · exact hs
      · exact hini
    · exact xs_gws hcd _ h
  exact va_runV ⟨C.1, C.2.1, C.2.2.1, C.2.2.2.1, xs_kts C⟩ hM (cwV As.length (xs_kts C) hG rfl h1 h2 ⟨rfl, hd⟩ ⟨h3, h4⟩) ⟨xsP_blind, va_recv C.2.2.2.2.2.1 hP hc he, fun U hU hW => ⟨rfl, xsE_move C.2.2.2.2.2 hS hU hW, by rw [hU]; exact hP, hD⟩⟩ rfl rfl hls hst (lv_room hcat) hdg ⟨h5, h6⟩
theorem xs_runS (C : xsC p s m c cc args own nL X) (hM : Met l y (xsWs y b nM ret) rm (xsP X w As) Qc 0 0 (xsF X)) (hl : Cond.methodLink own index y ∈ xsGt) (hi : Cond.static y ∈ xsGt) (hini : Cond.initialized y.cls ∈ xsGt) (hcd : Cond.code y b nM ret ∈ xsGt)
    (hd : y.cls ≠ "java/lang/invoke/MethodHandle" ∧ y.cls ≠ "java/lang/invoke/VarHandle" ∧ (parseMethodDescriptor y.desc).map (fun d => d.parameters.length) = some As.length) (hr : rm.cells = 0 ∧ rm.slots = 0 ∧ rm.frames + 1 ≤ R.frames ∧ 8 + (nM + 11) + rm.locals ≤ R.locals ∧ cells ≤ R.cells ∧ slots ≤ R.slots)
    (hP : va_P (xsD X) vwCl w H) (hD : va_D (xsF X) w) (hS : va_S (xsF X) s.heap H locs) (hls : ls.size = nL) (hst : st = As.reverse ++ rest) (hcat : (rest.map fun v => v.category).sum ≤ 8) (hdg : decode cc pc = .ok (.invokestatic index, 3)) :
    va_Run p l e R s m args below meth c H locs cells slots 0 0 (F0 m pc ls st) rest (Qc As.toArray) (xsF X) := by
  obtain ⟨h1, h2, h3, h4, h5, h6⟩ := hr
  have hG : GoodIn xsGt (va_wsS own index y (xsWs y b nM ret)) := fun w h => by
    rcases List.mem_append.mp h with h | h
    · refine xsGoodIn _ ?_
      simp only [List.mem_cons, List.mem_nil_iff, or_false] at h
      rcases h with rfl | rfl | rfl
      · exact hl
      · exact hi
      · exact hini
    · exact xs_gws hcd _ h
  exact va_runS ⟨C.1, C.2.1, C.2.2.1, C.2.2.2.1, xs_kts C⟩ hM (va_cwS As.length (xs_kts C) hG rfl h1 h2 hd ⟨h3, h4⟩) ⟨xsP_blind, fun U hU hW => ⟨rfl, xsE_move C.2.2.2.2.2 hS hU hW, by rw [hU]; exact hP, hD⟩⟩ rfl rfl hls hst (lv_room hcat) hdg ⟨h5, h6⟩
theorem xs_runSN {host : String} (C : xsC p s m c cc args own nL X) (hM : Met l y (xsWs y b nM ret) rm (xsP X w As) Qc 0 0 (xsF X)) (hl : va_Nw (.methodLinkNest own index y host) s) (hi : Cond.static y ∈ xsGt) (hini : Cond.initialized y.cls ∈ xsGt) (hcd : Cond.code y b nM ret ∈ xsGt)
    (hd : y.cls ≠ "java/lang/invoke/MethodHandle" ∧ y.cls ≠ "java/lang/invoke/VarHandle" ∧ (parseMethodDescriptor y.desc).map (fun d => d.parameters.length) = some As.length) (hr : rm.cells = 0 ∧ rm.slots = 0 ∧ rm.frames + 1 ≤ R.frames ∧ 8 + (nM + 11) + rm.locals ≤ R.locals ∧ cells ≤ R.cells ∧ slots ≤ R.slots)
    (hP : va_P (xsD X) vwCl w H) (hD : va_D (xsF X) w) (hS : va_S (xsF X) s.heap H locs) (hls : ls.size = nL) (hst : st = As.reverse ++ rest) (hcat : (rest.map fun v => v.category).sum ≤ 8) (hdg : decode cc pc = .ok (.invokestatic index, 3)) :
    va_Run p l e R s m args below meth c H locs cells slots 0 0 (F0 m pc ls st) rest (Qc As.toArray) (xsF X) := by
  obtain ⟨h1, h2, h3, h4, h5, h6⟩ := hr
  exact va_runSN ⟨C.1, C.2.1, C.2.2.1, C.2.2.2.1, xs_kts C⟩ hM ⟨va_cnB As.length (xs_kts C) (xs_gws hcd) rfl h1 h2 hl (xs_kts C _ hini) hd ⟨h3, h4⟩, xs_kts C _ hi, trivial⟩ ⟨xsP_blind, fun U hU hW => ⟨rfl, xsE_move C.2.2.2.2.2 hS hU hW, by rw [hU]; exact hP, hD⟩⟩ rfl rfl hls hst (lv_room hcat) hdg ⟨h5, h6⟩
theorem xs_calli {r : Int32} {ar : Array Value} (hS : va_S (xsF X) s.heap H locs) (hr : va_Run p l e R s m args below meth c H locs cells slots 0 0 (F0 m pc ls st) rest (xsQi X r w' ar) (xsF X))
    (kk : ∀ (H1 : Heap) (locs1 : List Loc), va_P (xsD X) vwCl w' H1 → va_D (xsF X) w' → va_S (xsF X) s.heap H1 locs1 → W p l e R s m args below meth c H1 locs1 cells slots Q (F0 m (pc + 3) ls (.int r :: rest))) : W p l e R s m args below meth c H locs cells slots Q (F0 m pc ls st) :=
  va_calli hr hS (fun _ _ h => h) (fun _ h => h) (fun r' u t H1 locs1 ht hvm hw hB hz hk hS1 => by subst hw; exact kk H1 locs1 (ht ▸ hB.1) hB.2 hS1)
theorem xs_calll {r : Int64} {ar : Array Value} (hS : va_S (xsF X) s.heap H locs) (hr : va_Run p l e R s m args below meth c H locs cells slots 0 0 (F0 m pc ls st) rest (xsQl X r w' ar) (xsF X))
    (kk : ∀ (H1 : Heap) (locs1 : List Loc), va_P (xsD X) vwCl w' H1 → va_D (xsF X) w' → va_S (xsF X) s.heap H1 locs1 → W p l e R s m args below meth c H1 locs1 cells slots Q (F0 m (pc + 3) ls (.long r :: rest))) : W p l e R s m args below meth c H locs cells slots Q (F0 m pc ls st) :=
  va_calll hr hS (fun _ _ h => h) (fun _ h => h) (fun r' u t H1 locs1 ht hvm hw hB hz hk hS1 => by subst hw; exact kk H1 locs1 (ht ▸ hB.1) hB.2 hS1)
theorem xs_callv {ar : Array Value} (hS : va_S (xsF X) s.heap H locs) (hr : va_Run p l e R s m args below meth c H locs cells slots 0 0 (F0 m pc ls st) rest (xsQv X w' ar) (xsF X))
    (kk : ∀ (H1 : Heap) (locs1 : List Loc), va_P (xsD X) vwCl w' H1 → va_D (xsF X) w' → va_S (xsF X) s.heap H1 locs1 → W p l e R s m args below meth c H1 locs1 cells slots Q (F0 m (pc + 3) ls rest)) : W p l e R s m args below meth c H locs cells slots Q (F0 m pc ls st) :=
  va_callv hr hS (fun _ _ h => h) (fun _ h => h) (fun u t H1 locs1 ht hvm hw hB hz hk hS1 => kk H1 locs1 (ht ▸ hB.1) hB.2 hS1)
theorem xs_callr {r : Nat} {ar : Array Value} (hS : va_S (xsF X) s.heap H locs) (hr : va_Run p l e R s m args below meth c H locs cells slots 0 0 (F0 m pc ls st) rest (xsQr X r w' ar) (xsF X))
    (kk : ∀ (H1 : Heap) (locs1 : List Loc), va_P (xsD X) vwCl w' H1 → va_D (xsF X) w' → va_S (xsF X) s.heap H1 locs1 → W p l e R s m args below meth c H1 locs1 cells slots Q (F0 m (pc + 3) ls (.ref r :: rest))) : W p l e R s m args below meth c H locs cells slots Q (F0 m pc ls st) :=
  va_callr hr hS (fun _ _ h => h) (fun _ h => h) (fun u ra t H1 locs1 ht hvm hw hB hz hk hS1 => by obtain ⟨e1, hB⟩ := hB; subst e1; exact kk H1 locs1 (ht ▸ hB.1) hB.2 hS1)
/-! a method's begin and end -/
theorem xs_iret {r : Int32} (C : xsC p s m c cc args own nL X) (hr : meth.sig.returnType = some .int) (hlk : meth.locks = false) (hP : va_P (xsD X) vwCl w H) (hD : va_D (xsF X) w) (hS : va_S (xsF X) s.heap H locs) (hdg : decode cc pc = .ok (.ireturn, 1)) :
    W p l e R s m args below meth c H locs 0 0 (MQ below (xsQi X r w) args s 0 0 (xsF X)) (F0 m pc ls [.int r]) :=
  W.iret C.1 C.2.1 hr (fun t ht hW => ⟨⟨r, (), rfl, rfl, by rw [ht]; exact hP, hD⟩, hS.F ht⟩) hS.2.2 hdg hlk
theorem xs_zret {r : Int32} (C : xsC p s m c cc args own nL X) (hr : meth.sig.returnType = some .boolean) (hlk : meth.locks = false) (hb : xsB r) (hP : va_P (xsD X) vwCl w H) (hD : va_D (xsF X) w) (hS : va_S (xsF X) s.heap H locs) (hdg : decode cc pc = .ok (.ireturn, 1)) :
    W p l e R s m args below meth c H locs 0 0 (MQ below (xsQi X r w) args s 0 0 (xsF X)) (F0 m pc ls [.int r]) :=
  W.zret C.1 C.2.1 hr (xsB_nar hb) (fun t ht hW => ⟨⟨r, (), rfl, rfl, by rw [ht]; exact hP, hD⟩, hS.F ht⟩) hS.2.2 hdg hlk
theorem xs_lret {r : Int64} (C : xsC p s m c cc args own nL X) (hr : meth.sig.returnType = some .long) (hlk : meth.locks = false) (hP : va_P (xsD X) vwCl w H) (hD : va_D (xsF X) w) (hS : va_S (xsF X) s.heap H locs) (hdg : decode cc pc = .ok (.lreturn, 1)) :
    W p l e R s m args below meth c H locs 0 0 (MQ below (xsQl X r w) args s 0 0 (xsF X)) (F0 m pc ls [.long r]) :=
  W.lret C.1 C.2.1 hr (fun t ht hW => ⟨⟨r, (), rfl, rfl, by rw [ht]; exact hP, hD⟩, hS.F ht⟩) hS.2.2 hdg hlk
theorem xs_vret (C : xsC p s m c cc args own nL X) (hr : meth.sig.returnType = none) (hlk : meth.locks = false) (hP : va_P (xsD X) vwCl w H) (hD : va_D (xsF X) w) (hS : va_S (xsF X) s.heap H locs) (hdg : decode cc pc = .ok (.return_, 1)) :
    W p l e R s m args below meth c H locs 0 0 (MQ below (xsQv X w) args s 0 0 (xsF X)) (F0 m pc ls []) :=
  W.vret C.1 C.2.1 hr (fun t ht hW => ⟨⟨(), rfl, trivial, by rw [ht]; exact hP, hD⟩, hS.F ht⟩) hS.2.2 hdg hlk
theorem xs_aret {r : Nat} {o : String} (C : xsC p s m c cc args own nL X) (hr : meth.sig.returnType = some (.object o)) (hlk : meth.locks = false) (hP : va_P (xsD X) vwCl w H) (hD : va_D (xsF X) w) (hS : va_S (xsF X) s.heap H locs) (hdg : decode cc pc = .ok (.areturn, 1)) :
    W p l e R s m args below meth c H locs 0 0 (MQ below (xsQr X r w) args s 0 0 (xsF X)) (F0 m pc ls [.ref r]) :=
  W.aret C.1 C.2.1 hr (Or.inl ⟨o, rfl⟩) (Or.inr ⟨r, rfl⟩) (fun t ht hW => ⟨⟨(), r, rfl, trivial, rfl, by rw [ht]; exact hP, hD⟩, hS.F ht⟩) hS.2.2 hdg hlk
theorem xs_met (own : String) (hy : plainName y.cls = true) (hown : y.cls = own) {av : List Value} (hav : (lg_sl av).length ≤ nM)
    (body : ∀ (p : Program) (e : Env) (s : State) (m : MethodId) (below : List Frame) (meth : Method) (c : Code) (ls : Array Slot), xsC p s m c b av.toArray own nM X → va_P (xsD X) vwCl w s.heap → va_D (xsF X) w → va_S (xsF X) s.heap s.heap [] → meth.sig.returnType = ret → meth.locks = false → lv_has ls nM (lv_args 0 av) →
      W p l e rm s m av.toArray below meth c s.heap [] 0 0 (MQ below Qc av.toArray s 0 0 (xsF X)) (F0 m 0 ls [])) : Met l y (xsWs y b nM ret) rm (xsP X w av) Qc 0 0 (xsF X) := by
  refine Met.ofW (cc := b) (maxL := nM) (ret := ret) hy rfl ?_
  intro p e s m args below meth c s₁ B hml hv
  obtain ⟨rfl, hE, hP, hD⟩ := hv
  have hts := atoms_spec (ws := xsWs y b nM ret) B.pre
  have hl := lv_entry av hav
  rw [lg_entry_eq]
  generalize (lg_sl av ++ List.replicate (nM - (lg_sl av).length) Slot.unset).toArray = ls at hl ⊢
  exact body p e s m below meth c ls ⟨B.exec, B.bytes, hml, hown ▸ findClass_of_methodNamed B.named, fun w h => hts w (List.mem_cons_of_mem _ h), hE⟩ hP hD va_S.rf B.returns B.notSynchronized hl
end XSR
