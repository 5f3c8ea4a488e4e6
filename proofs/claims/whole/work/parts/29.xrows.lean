/-! methods that throw: their contracts' ends, their throws, calls of them -/
def xsXi (X : xsX) (P : Int32 → va_W → Prop) := va_Qi P (fun (u : va_W) (t : State) => va_P (xsD X) vwCl u t.heap ∧ va_D (xsF X) u) (xsF X)
def xsXl (X : xsX) (P : Int64 → va_W → Prop) := va_Ql P (fun (u : va_W) (t : State) => va_P (xsD X) vwCl u t.heap ∧ va_D (xsF X) u) (xsF X)
def xsXv (X : xsX) (P : va_W → Prop) := va_Qv P (fun (u : va_W) (t : State) => va_P (xsD X) vwCl u t.heap ∧ va_D (xsF X) u) (xsF X)
def xsXC (X : xsX) (PX : Nat → va_W → Prop) : String → State → State → Prop := vx_X (fun (u : Nat × va_W) => PX u.1 u.2) (fun (E : String) (u : Nat × va_W) (t : State) => E = xsEx u.1 ∧ va_P (xsD X) vwCl u.2 t.heap ∧ va_D (xsF X) u.2) (xsF X)
/-- an exception's cell -/
def xsCe (s : State) (H : Heap) (n : Nat) (q : Addr) : Prop := ∃ ce : Cell, H[q]? = some ce ∧ ce.vm = .none ∧ s.vm.findClass (xsEx n) = some ce.cls
def xsTh {α β γ : Type} (o : α ⊕ (Nat × β)) (kx : Nat → Option γ) (k : α → Option γ) : Option γ := match o with
  | .inl v => k v
  | .inr x => kx x.1
section XSX
variable {p : Program} {l : Launch} {e : Env} {R : Room} {s : State} {m : MethodId} {args : Array Value} {below : List Frame} {meth : Method} {c : Code} {H : Heap} {locs : List Loc} {cells slots mc ms : Nat} {Q : State → Prop}
variable {cc : ByteArray} {pc nL index : Nat} {ls : Array Slot} {rest st As : List Value} {own : String} {X : xsX} {w w' : va_W} {a q0 ci N k n : Nat} {Cn : String} {T : u_T} {fs : List Value} {v : Value}
variable {y : MethodName} {b : ByteArray} {nM : Nat} {ret : Option FieldType} {rm : Room} {Qc : Array Value → State → Outcome → State → Prop} {XC : String → State → State → Prop}
theorem xs_bd3 {n : Nat} (C : xsC p s m c cc args own nL X) : ∀ w ∈ xsBd3 (xsEx n), w.before args s = true := by
  have hc := C.2.2.2.2.2.2.2.2.2.1.2.1
  have h1 : (Cond.castable (xsEx n) (xsEx n)).before args s = true := by
    unfold xsEx
    by_cases e1 : n = 1
    · simp only [if_pos e1]; exact va_Nw.use rfl hc.1
    · by_cases e2 : n = 2
      · simp only [if_neg e1, if_pos e2]; exact va_Nw.use rfl hc.2.1
      · by_cases e3 : n = 3
        · simp only [if_neg e1, if_neg e2, if_pos e3]; exact va_Nw.use rfl hc.2.2.1
        · simp only [if_neg e1, if_neg e2, if_neg e3]; exact va_Nw.use rfl hc.2.2.2.1
  intro w h
  simp only [xsBd3, List.mem_cons, List.mem_nil_iff, or_false] at h
  rcases h with rfl | rfl | rfl | rfl
  · exact h1
  · exact va_Nw.use rfl hc.2.2.2.2.1
  · exact va_Nw.use rfl hc.2.2.2.2.2.1
  · exact va_Nw.use rfl hc.2.2.2.2.2.2
theorem xs_atb {n : Nat} {L : List Cond} (C : xsC p s m c cc args own nL X) (hbad : ∀ w ∈ L, w ∈ lw_tbl ∧ (goodWord w = true ∨ w ∈ xsBd3 (xsEx n))) : ∀ w ∈ L, w.before args s = true := fun w h => by
  obtain ⟨h1, h2⟩ := hbad w h
  rcases h2 with h2 | h2
  · exact xs_kts C _ (List.mem_filter.mpr ⟨h1, h2⟩)
  · exact xs_bd3 C w h2
theorem xs_otb {n : Nat} {L : List Cond} {k1 k2 : Cond} (hbad : ∀ w ∈ L, w ∈ lw_tbl ∧ (goodWord w = true ∨ w ∈ xsBd3 (xsEx n))) (h1 : k1 ∈ xsGt) (h2 : k2 ∈ xsGt) : ∀ w ∈ k1 :: k2 :: L, vx_ot w = true := fun w h => by
  rcases List.mem_cons.mp h with rfl | h
  · unfold vx_ot; rw [xsGood _ h1]; exact Bool.or_true _
  · rcases List.mem_cons.mp h with rfl | h
    · unfold vx_ot; rw [xsGood _ h2]; exact Bool.or_true _
    · obtain ⟨-, h2⟩ := hbad w h
      rcases h2 with h2 | h2
      · unfold vx_ot; rw [h2]; exact Bool.or_true _
      · exact xsOt _ w h2
theorem xs_XC {PX : Nat → va_W → Prop} {n : Nat} {t : State} (hP : va_P (xsD X) vwCl w H) (hD : va_D (xsF X) w) (hS : va_S (xsF X) s.heap H locs) (hpx : PX n w) (h1 : H.size ≤ t.heap.size) (h2 : ∀ q : Nat, q < H.size → t.heap[q]? = H[q]?) : xsXC X PX (xsEx n) s t := by
  refine ⟨(n, w), hpx, ⟨rfl, ?_, hD⟩, Nat.le_trans hS.1 h1, fun q hq hA => (h2 q (Nat.lt_of_lt_of_le hq hS.1)).trans (hS.2.1 q hq hA)⟩
  refine va_P.kept hP (fun k q hk => h2 q.1 (vx_lt hP hk))
theorem xs_thr {PX : Nat → va_W → Prop} (n : Nat) {text : String} {ik is ic sa : Nat} (hl : l.stackTraces = false) (C : xsC p s m c cc args RX10 nL X) (hne : Bundle.fit (xsEx n) = true) (hk : Cond.classLink RX10 ik (xsEx n) ∈ xsGt) (hini : Cond.initialized (xsEx n) ∈ xsGt) (hstr : vk_R RX10 is text sa s) (hbad : ∀ w ∈ vx_atS RX10 ic (xsEx n) xsNm, w ∈ lw_tbl ∧ (goodWord w = true ∨ w ∈ xsBd3 (xsEx n)))
    (hP : va_P (xsD X) vwCl w H) (hD : va_D (xsF X) w) (hS : va_S (xsF X) s.heap H locs) (hsize : ls.size = nL) (d0 : decode cc pc = .ok (.new ik, 3)) (d3 : decode cc (pc + 3) = .ok (.dup, 1)) (d4 : decode cc (pc + 4) = .ok (.ldc is, 2)) (d6 : decode cc (pc + 6) = .ok (.invokespecial ic, 3)) (d9 : decode cc (pc + 9) = .ok (.athrow, 1))
    (hout : ∀ x ∈ c.exceptionTable.toList, False) (hR : 5 < R.frames ∧ (rest.map fun v => v.category).sum + 82 ≤ R.locals ∧ cells + 1 ≤ R.cells ∧ slots + 6 ≤ R.slots) (hlk : meth.locks = false) (hc : cells + 1 ≤ mc) (hs : slots + 6 ≤ ms) (hpx : PX n w) :
    W p l e R s m args below meth c H locs cells slots (vx_MQ below Qc (xsXC X PX) args s mc ms (xsF X)) (F0 m pc ls rest) :=
  vx_throwS C.1 C.2.1 hl (cls := xsEx n) (names := xsNm) (A := xsF X) C.2.2.2.1 hne (by decide) (xs_kts C _ hk) (xs_kts C _ hini) hstr (xs_atb C hbad) (xs_otb hbad hk hini) C.2.2.2.2.2.2.2.2.1.1 C.2.2.2.2.2.2.2.2.1.2 hS (hsize.trans C.2.2.1.symm) d0 d3 d4 d6 d9 (fun x hx => absurd (hout x hx) id) hR.1 hR.2.1 hR.2.2.1 hR.2.2.2 hlk (fun t _ h1 h2 => xs_XC hP hD hS hpx h1 h2) hS.2.2 hc hs
theorem xs_thrW {PX : Nat → va_W → Prop} (n : Nat) {text : String} {ik is ic sa : Nat} (hl : l.stackTraces = false) (C : xsC p s m c cc args RX10 nL X) (hne : Bundle.fit (xsEx n) = true) (hk : Cond.classLink RX10 ik (xsEx n) ∈ xsGt) (hini : Cond.initialized (xsEx n) ∈ xsGt) (hstr : vk_R RX10 is text sa s) (hbad : ∀ w ∈ vx_atS RX10 ic (xsEx n) xsNm, w ∈ lw_tbl ∧ (goodWord w = true ∨ w ∈ xsBd3 (xsEx n)))
    (hP : va_P (xsD X) vwCl w H) (hD : va_D (xsF X) w) (hS : va_S (xsF X) s.heap H locs) (hsize : ls.size = nL) (d0 : decode cc pc = .ok (.new ik, 3)) (d3 : decode cc (pc + 3) = .ok (.dup, 1)) (d4 : decode cc (pc + 4) = .ok (.ldc_w is, 3)) (d7 : decode cc (pc + 7) = .ok (.invokespecial ic, 3)) (d10 : decode cc (pc + 10) = .ok (.athrow, 1))
    (hout : ∀ x ∈ c.exceptionTable.toList, False) (hR : 5 < R.frames ∧ (rest.map fun v => v.category).sum + 82 ≤ R.locals ∧ cells + 1 ≤ R.cells ∧ slots + 6 ≤ R.slots) (hlk : meth.locks = false) (hc : cells + 1 ≤ mc) (hs : slots + 6 ≤ ms) (hpx : PX n w) :
    W p l e R s m args below meth c H locs cells slots (vx_MQ below Qc (xsXC X PX) args s mc ms (xsF X)) (F0 m pc ls rest) :=
  vx_throwSW C.1 C.2.1 hl (cls := xsEx n) (names := xsNm) (A := xsF X) C.2.2.2.1 hne (by decide) (xs_kts C _ hk) (xs_kts C _ hini) hstr (xs_atb C hbad) (xs_otb hbad hk hini) C.2.2.2.2.2.2.2.2.1.1 C.2.2.2.2.2.2.2.2.1.2 hS (hsize.trans C.2.2.1.symm) d0 d3 d4 d7 d10 (fun x hx => absurd (hout x hx) id) hR.1 hR.2.1 hR.2.2.1 hR.2.2.2 hlk (fun t _ h1 h2 => xs_XC hP hD hS hpx h1 h2) hS.2.2 hc hs
theorem xs_thrN {PX : Nat → va_W → Prop} {text : String} {ik is ic sa : Nat} (hl : l.stackTraces = false) (C : xsC p s m c cc args RX10 nL X) (hk : Cond.classLink RX10 ik (xsEx 4) ∈ xsGt) (hini : Cond.initialized (xsEx 4) ∈ xsGt) (hstr : vk_R RX10 is text sa s) (hbad : ∀ w ∈ xsAtN RX10 ic, w ∈ lw_tbl ∧ (goodWord w = true ∨ w ∈ xsBd3 (xsEx 4)))
    (hP : va_P (xsD X) vwCl w H) (hD : va_D (xsF X) w) (hS : va_S (xsF X) s.heap H locs) (hsize : ls.size = nL) (d0 : decode cc pc = .ok (.new ik, 3)) (d3 : decode cc (pc + 3) = .ok (.dup, 1)) (d4 : decode cc (pc + 4) = .ok (.ldc is, 2)) (d6 : decode cc (pc + 6) = .ok (.invokespecial ic, 3)) (d9 : decode cc (pc + 9) = .ok (.athrow, 1))
    (hout : ∀ x ∈ c.exceptionTable.toList, False) (hR : 5 < R.frames ∧ (rest.map fun v => v.category).sum + 82 ≤ R.locals ∧ cells + 1 ≤ R.cells ∧ slots + 6 ≤ R.slots) (hlk : meth.locks = false) (hc : cells + 1 ≤ mc) (hs : slots + 6 ≤ ms) (hpx : PX 4 w) :
    W p l e R s m args below meth c H locs cells slots (vx_MQ below Qc (xsXC X PX) args s mc ms (xsF X)) (F0 m pc ls rest) :=
  xs_vxNS C.1 C.2.1 hl (A := xsF X) C.2.2.2.1 (xs_kts C _ hk) (xs_kts C _ hini) hstr (xs_atb C hbad) (xs_otb hbad hk hini) C.2.2.2.2.2.2.2.2.1.1 C.2.2.2.2.2.2.2.2.1.2 hS (hsize.trans C.2.2.1.symm) d0 d3 d4 d6 d9 (fun x hx => absurd (hout x hx) id) hR.1 hR.2.1 hR.2.2.1 hR.2.2.2 hlk (fun t _ h1 h2 => xs_XC (n := 4) hP hD hS hpx h1 h2) hS.2.2 hc hs
theorem xs_thrNW {PX : Nat → va_W → Prop} {text : String} {ik is ic sa : Nat} (hl : l.stackTraces = false) (C : xsC p s m c cc args RX10 nL X) (hk : Cond.classLink RX10 ik (xsEx 4) ∈ xsGt) (hini : Cond.initialized (xsEx 4) ∈ xsGt) (hstr : vk_R RX10 is text sa s) (hbad : ∀ w ∈ xsAtN RX10 ic, w ∈ lw_tbl ∧ (goodWord w = true ∨ w ∈ xsBd3 (xsEx 4)))
    (hP : va_P (xsD X) vwCl w H) (hD : va_D (xsF X) w) (hS : va_S (xsF X) s.heap H locs) (hsize : ls.size = nL) (d0 : decode cc pc = .ok (.new ik, 3)) (d3 : decode cc (pc + 3) = .ok (.dup, 1)) (d4 : decode cc (pc + 4) = .ok (.ldc_w is, 3)) (d7 : decode cc (pc + 7) = .ok (.invokespecial ic, 3)) (d10 : decode cc (pc + 10) = .ok (.athrow, 1))
    (hout : ∀ x ∈ c.exceptionTable.toList, False) (hR : 5 < R.frames ∧ (rest.map fun v => v.category).sum + 82 ≤ R.locals ∧ cells + 1 ≤ R.cells ∧ slots + 6 ≤ R.slots) (hlk : meth.locks = false) (hc : cells + 1 ≤ mc) (hs : slots + 6 ≤ ms) (hpx : PX 4 w) :
    W p l e R s m args below meth c H locs cells slots (vx_MQ below Qc (xsXC X PX) args s mc ms (xsF X)) (F0 m pc ls rest) :=
  xs_vxNW C.1 C.2.1 hl (A := xsF X) C.2.2.2.1 (xs_kts C _ hk) (xs_kts C _ hini) hstr (xs_atb C hbad) (xs_otb hbad hk hini) C.2.2.2.2.2.2.2.2.1.1 C.2.2.2.2.2.2.2.2.1.2 hS (hsize.trans C.2.2.1.symm) d0 d3 d4 d7 d10 (fun x hx => absurd (hout x hx) id) hR.1 hR.2.1 hR.2.2.1 hR.2.2.2 hlk (fun t _ h1 h2 => xs_XC (n := 4) hP hD hS hpx h1 h2) hS.2.2 hc hs
/-! calls of methods that throw -/
theorem xs_xrunV (C : xsC p s m c cc args own nL X) (hM : vx_Met l y (xsWs y b nM ret) rm (xsP X w (.ref a :: As)) Qc XC mc ms (xsF X)) (hl : Cond.methodLink own index y ∈ xsGt) (hi : Cond.instanceMethod y ∈ xsGt) (hs : Cond.selects y.cls y y ∈ xsGt) (hini : Cond.initialized y.cls ∈ xsGt) (hcd : Cond.code y b nM ret ∈ xsGt)
    (hd : y.cls ≠ "java/lang/invoke/MethodHandle" ∧ y.cls ≠ "java/lang/invoke/VarHandle" ∧ (parseMethodDescriptor y.desc).map (fun d => d.parameters.length) = some As.length) (hr : rm.cells = mc ∧ rm.slots = ms ∧ rm.frames + 1 ≤ R.frames ∧ 8 + (nM + 11) + rm.locals ≤ R.locals ∧ cells + mc ≤ R.cells ∧ slots + ms ≤ R.slots)
    (hP : va_P (xsD X) vwCl w H) (hD : va_D (xsF X) w) (hS : va_S (xsF X) s.heap H locs) (he : w[q0]? = some (a, .inr (ci, fs))) (hc : vwCl[ci]? = some (y.cls, T, N)) (hls : ls.size = nL) (hst : st = As.reverse ++ .ref a :: rest) (hcat : (rest.map fun v => v.category).sum ≤ 8) (hdg : decode cc pc = .ok (.invokevirtual index, 3)) :
    vx_Run p l e R s m args below meth c H locs cells slots mc ms (F0 m pc ls st) rest (Qc (Value.ref a :: As).toArray) XC (xsF X) := by
  obtain ⟨h1, h2, h3, h4, h5, h6⟩ := hr
  have hG : GoodIn xsGt (wsV own index y.cls y (xsWs y b nM ret)) := fun w h => by
    rcases List.mem_append.mp h with h | h
    · refine xsGoodIn _ ?_
      simp only [List.mem_cons, List.mem_nil_iff, or_false] at h
      rcases h with rfl | rfl | rfl | rfl
      · exact hl
      · exact hi
      · exact hs
      · exact hini
    · exact xs_gws hcd _ h
  exact vx_runV ⟨C.1, C.2.1, C.2.2.1, C.2.2.2.1, xs_kts C⟩ hM (cwV As.length (xs_kts C) hG rfl h1 h2 ⟨rfl, hd⟩ ⟨h3, h4⟩) ⟨xsP_blind, va_recv C.2.2.2.2.2.1 hP hc he, fun U hU hW => ⟨rfl, xsE_move C.2.2.2.2.2 hS hU hW, by rw [hU]; exact hP, hD⟩⟩ rfl rfl hls hst (lv_room hcat) hdg ⟨h5, h6⟩
theorem xs_xrunS (C : xsC p s m c cc args own nL X) (hM : vx_Met l y (xsWs y b nM ret) rm (xsP X w As) Qc XC mc ms (xsF X)) (hl : Cond.methodLink own index y ∈ xsGt) (hi : Cond.static y ∈ xsGt) (hini : Cond.initialized y.cls ∈ xsGt) (hcd : Cond.code y b nM ret ∈ xsGt)
    (hd : y.cls ≠ "java/lang/invoke/MethodHandle" ∧ y.cls ≠ "java/lang/invoke/VarHandle" ∧ (parseMethodDescriptor y.desc).map (fun d => d.parameters.length) = some As.length) (hr : rm.cells = mc ∧ rm.slots = ms ∧ rm.frames + 1 ≤ R.frames ∧ 8 + (nM + 11) + rm.locals ≤ R.locals ∧ cells + mc ≤ R.cells ∧ slots + ms ≤ R.slots)
    (hP : va_P (xsD X) vwCl w H) (hD : va_D (xsF X) w) (hS : va_S (xsF X) s.heap H locs) (hls : ls.size = nL) (hst : st = As.reverse ++ rest) (hcat : (rest.map fun v => v.category).sum ≤ 8) (hdg : decode cc pc = .ok (.invokestatic index, 3)) :
    vx_Run p l e R s m args below meth c H locs cells slots mc ms (F0 m pc ls st) rest (Qc As.toArray) XC (xsF X) := by
  obtain ⟨h1, h2, h3, h4, h5, h6⟩ := hr
  have hG : GoodIn xsGt (va_wsS own index y (xsWs y b nM ret)) := fun w h => by
    rcases List.mem_append.mp h with h | h
    · refine xsGoodIn _ ?_
      simp only [List.mem_cons, List.mem_nil_iff, or_false] at h
      rcases h with rfl | rfl | rfl
      · exact hl
      · exact hi
      · exact hini
    · exact xs_gws hcd _ h
  exact vx_runS ⟨C.1, C.2.1, C.2.2.1, C.2.2.2.1, xs_kts C⟩ hM (va_cwS As.length (xs_kts C) hG rfl h1 h2 hd ⟨h3, h4⟩) ⟨xsP_blind, fun U hU hW => ⟨rfl, xsE_move C.2.2.2.2.2 hS hU hW, by rw [hU]; exact hP, hD⟩⟩ rfl rfl hls hst (lv_room hcat) hdg ⟨h5, h6⟩
theorem xs_xcalli {P : Int32 → va_W → Prop} {PX : Nat → va_W → Prop} {ar : Array Value} (hS : va_S (xsF X) s.heap H locs) (hr : vx_Run p l e R s m args below meth c H locs cells slots mc ms (F0 m pc ls st) rest (xsXi X P ar) (xsXC X PX) (xsF X))
    (kx : ∀ (n : Nat) (u : va_W) (q : Addr) (H1 : Heap) (locs1 : List Loc), PX n u → va_P (xsD X) vwCl u H1 → va_D (xsF X) u → va_S (xsF X) s.heap H1 locs1 → xsCe s H1 n q → vx_W p l e R s m args below meth c H1 locs1 (cells + mc) (slots + ms) Q (F0 m pc ls rest) q)
    (kk : ∀ (r : Int32) (u : va_W) (H1 : Heap) (locs1 : List Loc), P r u → va_P (xsD X) vwCl u H1 → va_D (xsF X) u → va_S (xsF X) s.heap H1 locs1 → W p l e R s m args below meth c H1 locs1 (cells + mc) (slots + ms) Q (F0 m (pc + 3) ls (.int r :: rest))) : W p l e R s m args below meth c H locs cells slots Q (F0 m pc ls st) :=
  vx_calli hr hS (fun _ _ h => h) (fun _ h => h) (fun _ _ h => h) (fun E ce q u t H1 locs1 ht hvm hpx hB hz hk hS1 h1 h2 h3 => by obtain ⟨e1, e2, e3⟩ := hB; subst e1; subst ht; exact kx u.1 u.2 q _ locs1 hpx e2 e3 hS1 ⟨ce, h1, h2, h3⟩)
    (fun r u t H1 locs1 ht hvm hw hB hz hk hS1 => by subst ht; exact kk r u _ locs1 hw hB.1 hB.2 hS1)
theorem xs_xcalll {P : Int64 → va_W → Prop} {PX : Nat → va_W → Prop} {ar : Array Value} (hS : va_S (xsF X) s.heap H locs) (hr : vx_Run p l e R s m args below meth c H locs cells slots mc ms (F0 m pc ls st) rest (xsXl X P ar) (xsXC X PX) (xsF X))
    (kx : ∀ (n : Nat) (u : va_W) (q : Addr) (H1 : Heap) (locs1 : List Loc), PX n u → va_P (xsD X) vwCl u H1 → va_D (xsF X) u → va_S (xsF X) s.heap H1 locs1 → xsCe s H1 n q → vx_W p l e R s m args below meth c H1 locs1 (cells + mc) (slots + ms) Q (F0 m pc ls rest) q)
    (kk : ∀ (r : Int64) (u : va_W) (H1 : Heap) (locs1 : List Loc), P r u → va_P (xsD X) vwCl u H1 → va_D (xsF X) u → va_S (xsF X) s.heap H1 locs1 → W p l e R s m args below meth c H1 locs1 (cells + mc) (slots + ms) Q (F0 m (pc + 3) ls (.long r :: rest))) : W p l e R s m args below meth c H locs cells slots Q (F0 m pc ls st) :=
  vx_calll hr hS (fun _ _ h => h) (fun _ h => h) (fun _ _ h => h) (fun E ce q u t H1 locs1 ht hvm hpx hB hz hk hS1 h1 h2 h3 => by obtain ⟨e1, e2, e3⟩ := hB; subst e1; subst ht; exact kx u.1 u.2 q _ locs1 hpx e2 e3 hS1 ⟨ce, h1, h2, h3⟩)
    (fun r u t H1 locs1 ht hvm hw hB hz hk hS1 => by subst ht; exact kk r u _ locs1 hw hB.1 hB.2 hS1)
theorem xs_xcallv {P : va_W → Prop} {PX : Nat → va_W → Prop} {ar : Array Value} (hS : va_S (xsF X) s.heap H locs) (hr : vx_Run p l e R s m args below meth c H locs cells slots mc ms (F0 m pc ls st) rest (xsXv X P ar) (xsXC X PX) (xsF X))
    (kx : ∀ (n : Nat) (u : va_W) (q : Addr) (H1 : Heap) (locs1 : List Loc), PX n u → va_P (xsD X) vwCl u H1 → va_D (xsF X) u → va_S (xsF X) s.heap H1 locs1 → xsCe s H1 n q → vx_W p l e R s m args below meth c H1 locs1 (cells + mc) (slots + ms) Q (F0 m pc ls rest) q)
    (kk : ∀ (u : va_W) (H1 : Heap) (locs1 : List Loc), P u → va_P (xsD X) vwCl u H1 → va_D (xsF X) u → va_S (xsF X) s.heap H1 locs1 → W p l e R s m args below meth c H1 locs1 (cells + mc) (slots + ms) Q (F0 m (pc + 3) ls rest)) : W p l e R s m args below meth c H locs cells slots Q (F0 m pc ls st) :=
  vx_callv hr hS (fun _ _ h => h) (fun _ h => h) (fun _ _ h => h) (fun E ce q u t H1 locs1 ht hvm hpx hB hz hk hS1 h1 h2 h3 => by obtain ⟨e1, e2, e3⟩ := hB; subst e1; subst ht; exact kx u.1 u.2 q _ locs1 hpx e2 e3 hS1 ⟨ce, h1, h2, h3⟩)
    (fun u t H1 locs1 ht hvm hw hB hz hk hS1 => by subst ht; exact kk u _ locs1 hw hB.1 hB.2 hS1)
/-! ends -/
theorem xs_xpass {PX : Nat → va_W → Prop} {n : Nat} {q : Addr} (hlk : meth.locks = false) (hout : ∀ x ∈ c.exceptionTable.toList, False) (hpx : PX n w) (hP : va_P (xsD X) vwCl w H) (hD : va_D (xsF X) w) (hS : va_S (xsF X) s.heap H locs) (hq : xsCe s H n q) (hc : cells ≤ mc) (hs : slots ≤ ms) :
    vx_W p l e R s m args below meth c H locs cells slots (vx_MQ below Qc (xsXC X PX) args s mc ms (xsF X)) (F0 m pc ls rest) q := by
  obtain ⟨ce, h1, h2, h3⟩ := hq
  exact vx_out (fun x hx => absurd (hout x hx) id) hlk h1 h2 h3 (fun t ht _ => xs_XC hP hD hS hpx (by rw [ht]; exact Nat.le_refl _) (fun q _ => by rw [ht])) hS.2.2 hc hs
theorem xs_xiret {P : Int32 → va_W → Prop} {r : Int32} (C : xsC p s m c cc args own nL X) (hr : meth.sig.returnType = some .int) (hlk : meth.locks = false) (hp : P r w) (hP : va_P (xsD X) vwCl w H) (hD : va_D (xsF X) w) (hS : va_S (xsF X) s.heap H locs) (hc : cells ≤ mc) (hs : slots ≤ ms) (hdg : decode cc pc = .ok (.ireturn, 1)) :
    W p l e R s m args below meth c H locs cells slots (vx_MQ below (xsXi X P) XC args s mc ms (xsF X)) (F0 m pc ls [.int r]) :=
  W.widen hc hs (vx_ret (W.iret C.1 C.2.1 hr (fun t ht hW => ⟨⟨r, w, rfl, hp, by rw [ht]; exact hP, hD⟩, hS.F ht⟩) hS.2.2 hdg hlk))
theorem xs_xlret {P : Int64 → va_W → Prop} {r : Int64} (C : xsC p s m c cc args own nL X) (hr : meth.sig.returnType = some .long) (hlk : meth.locks = false) (hp : P r w) (hP : va_P (xsD X) vwCl w H) (hD : va_D (xsF X) w) (hS : va_S (xsF X) s.heap H locs) (hc : cells ≤ mc) (hs : slots ≤ ms) (hdg : decode cc pc = .ok (.lreturn, 1)) :
    W p l e R s m args below meth c H locs cells slots (vx_MQ below (xsXl X P) XC args s mc ms (xsF X)) (F0 m pc ls [.long r]) :=
  W.widen hc hs (vx_ret (W.lret C.1 C.2.1 hr (fun t ht hW => ⟨⟨r, w, rfl, hp, by rw [ht]; exact hP, hD⟩, hS.F ht⟩) hS.2.2 hdg hlk))
theorem xs_xvret {P : va_W → Prop} (C : xsC p s m c cc args own nL X) (hr : meth.sig.returnType = none) (hlk : meth.locks = false) (hp : P w) (hP : va_P (xsD X) vwCl w H) (hD : va_D (xsF X) w) (hS : va_S (xsF X) s.heap H locs) (hc : cells ≤ mc) (hs : slots ≤ ms) (hdg : decode cc pc = .ok (.return_, 1)) :
    W p l e R s m args below meth c H locs cells slots (vx_MQ below (xsXv X P) XC args s mc ms (xsF X)) (F0 m pc ls []) :=
  W.widen hc hs (vx_ret (W.vret C.1 C.2.1 hr (fun t ht hW => ⟨⟨w, rfl, hp, by rw [ht]; exact hP, hD⟩, hS.F ht⟩) hS.2.2 hdg hlk))
theorem xs_xmet (own : String) (hy : plainName y.cls = true) (hown : y.cls = own) {av : List Value} (hav : (lg_sl av).length ≤ nM)
    (body : ∀ (p : Program) (e : Env) (s : State) (m : MethodId) (below : List Frame) (meth : Method) (c : Code) (ls : Array Slot) (H : Heap) (locs : List Loc), xsC p s m c b av.toArray own nM X → (∀ x ∈ c.exceptionTable.toList, False) → va_P (xsD X) vwCl w H → va_D (xsF X) w → va_S (xsF X) s.heap H locs → meth.sig.returnType = ret → meth.locks = false → lv_has ls nM (lv_args 0 av) →
      W p l e rm s m av.toArray below meth c H locs 0 0 (vx_MQ below Qc XC av.toArray s mc ms (xsF X)) (F0 m 0 ls [])) : vx_Met l y (xsWs y b nM ret) rm (xsP X w av) Qc XC mc ms (xsF X) := by
  refine vx_ofW (cc := b) (maxL := nM) (ret := ret) hy rfl ?_
  intro p e s m args below meth c s₁ B hml hout hv
  obtain ⟨rfl, hE, hP, hD⟩ := hv
  have hts := atoms_spec (ws := xsWs y b nM ret) B.pre
  have hl := lv_entry av hav
  rw [lg_entry_eq]
  generalize (lg_sl av ++ List.replicate (nM - (lg_sl av).length) Slot.unset).toArray = ls at hl ⊢
  exact body p e s m below meth c ls s.heap [] ⟨B.exec, B.bytes, hml, hown ▸ findClass_of_methodNamed B.named, fun w h => hts w (List.mem_cons_of_mem _ h), hE⟩ hout hP hD va_S.rf B.returns B.notSynchronized hl
end XSX
