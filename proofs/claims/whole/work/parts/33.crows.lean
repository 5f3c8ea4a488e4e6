theorem xs_apk {W0 L : va_W} {c : Nat × va_E} (k : Nat) (h : L[k]? = some c) : (W0 ++ L)[W0.length + k]? = some c := by
  rw [List.getElem?_append_right (Nat.le_add_right _ _), Nat.add_sub_cancel_left]; exact h
theorem xs_aps {W0 L L' : va_W} {c : Nat × va_E} (k : Nat) (h : L.set k c = L') : (W0 ++ L).set (W0.length + k) c = W0 ++ L' := by
  rw [List.set_append_right _ _ (Nat.le_add_right _ _), Nat.add_sub_cancel_left, h]
section XSK
variable {p : Program} {l : Launch} {e : Env} {R : Room} {s : State} {m : MethodId} {args : Array Value} {below : List Frame} {meth : Method} {c : Code} {H : Heap} {locs : List Loc} {cells slots mc ms : Nat} {Q : State → Prop}
variable {cc : ByteArray} {pc nL index : Nat} {ls : Array Slot} {rest : List Value} {own : String} {X : xsX} {W0 L L' : va_W} {a ci N k : Nat} {Cn : String} {T : u_T} {fs : List Value} {v : Value}
theorem xs_cA (C : xsC p s m c cc args own nL X) : ∀ q, s.heap.size ≤ q → xsF X q := fun q h => Nat.le_trans C.2.2.2.2.2.2.1 h
theorem xs_cnew {n : Int32} {N' : Nat} (at' : ArrayType) (ty : FieldType) (ti : Nat) (cT : ClassId) (hty : newarray.typeOf at' = ty) (hT : (xsTy X)[ti]? = some (cT, ty)) (hf : ∀ cA : ClassId, va_RA s cA ty → va_RA s cT ty → cA = cT) (C : xsC p s m c cc args own nL X) (hac : Cond.arrayClass (newarray.typeOf at') ∈ xsGt) (hP : va_P (xsD X) vwCl (W0 ++ L) H) (hD : va_D (xsF X) (W0 ++ L)) (hS : va_S (xsF X) s.heap H locs)
    {a0 : vp_A} (ha : ∀ cA : ClassId, vp_cell cA a0 = arrV cA N' (fun _ => defaultValue ty)) (hn : ¬ n < 0) (hN : n.toNatClampNeg = N') (hbytes : N' * componentBytes ty ≤ 536870912) (hr : cells + 1 ≤ R.cells ∧ slots + N' ≤ R.slots) (hdg : decode cc pc = .ok (.newarray at', 2))
    (kk : ∀ (q : Nat) (H1 : Heap), va_P (xsD X) vwCl (W0 ++ (L ++ [(q, .inl (cT, a0))])) H1 → va_D (xsF X) (W0 ++ (L ++ [(q, .inl (cT, a0))])) → va_S (xsF X) s.heap H1 locs → W p l e R s m args below meth c H1 locs (cells + 1) (slots + N') Q (F0 m (pc + 2) ls (.ref q :: rest))) : W p l e R s m args below meth c H locs cells slots Q (F0 m pc ls (.int n :: rest)) := by
  refine va_newa C.1 C.2.1 (xs_kts C _ hac) hty C.2.2.2.2.2.1 hP hD hS (xs_cA C) ha hn hN hbytes hr.1 hr.2 hdg (fun q cA H1 hK hP hD hS => ?_)
  have h1 : (xsTy X ++ [(cA, ty)])[(xsTy X).length]? = some (cA, ty) := by simp
  have e : cA = cT := hf cA (hK.2 _ _ h1).2 (C.2.2.2.2.2.1.2 _ _ hT).2
  subst e
  exact kk q H1 (List.append_assoc W0 L _ ▸ hP) (List.append_assoc W0 L _ ▸ hD) hS
theorem xs_cnewI {n : Int32} (N' : Nat) (C : xsC p s m c cc args own nL X) (hac : Cond.arrayClass .int ∈ xsGt) (hP : va_P (xsD X) vwCl (W0 ++ L) H) (hD : va_D (xsF X) (W0 ++ L)) (hS : va_S (xsF X) s.heap H locs) (hn : ¬ n < 0) (hN : n.toNatClampNeg = N') (hbytes : N' * 4 ≤ 536870912) (hr : cells + 1 ≤ R.cells ∧ slots + N' ≤ R.slots) (hdg : decode cc pc = .ok (.newarray .int, 2))
    (kk : ∀ (q : Nat) (H1 : Heap), va_P (xsD X) vwCl (W0 ++ (L ++ [(q, .inl (xsCI X, N', .inl (fun _ => 0)))])) H1 → va_D (xsF X) (W0 ++ (L ++ [(q, .inl (xsCI X, N', .inl (fun _ => 0)))])) → va_S (xsF X) s.heap H1 locs → W p l e R s m args below meth c H1 locs (cells + 1) (slots + N') Q (F0 m (pc + 2) ls (.ref q :: rest))) : W p l e R s m args below meth c H locs cells slots Q (F0 m pc ls (.int n :: rest)) :=
  xs_cnew .int .int 1 (xsCI X) rfl rfl (fun cA h1 h2 => Option.some.inj (h1.symm.trans h2)) C hac hP hD hS (fun _ => rfl) hn hN hbytes hr hdg kk
theorem xs_cnewB {n : Int32} (N' : Nat) (C : xsC p s m c cc args own nL X) (hac : Cond.arrayClass .byte ∈ xsGt) (hP : va_P (xsD X) vwCl (W0 ++ L) H) (hD : va_D (xsF X) (W0 ++ L)) (hS : va_S (xsF X) s.heap H locs) (hn : ¬ n < 0) (hN : n.toNatClampNeg = N') (hbytes : N' * 1 ≤ 536870912) (hr : cells + 1 ≤ R.cells ∧ slots + N' ≤ R.slots) (hdg : decode cc pc = .ok (.newarray .byte, 2))
    (kk : ∀ (q : Nat) (H1 : Heap), va_P (xsD X) vwCl (W0 ++ (L ++ [(q, .inl (xsCB X, N', .inl (fun _ => 0)))])) H1 → va_D (xsF X) (W0 ++ (L ++ [(q, .inl (xsCB X, N', .inl (fun _ => 0)))])) → va_S (xsF X) s.heap H1 locs → W p l e R s m args below meth c H1 locs (cells + 1) (slots + N') Q (F0 m (pc + 2) ls (.ref q :: rest))) : W p l e R s m args below meth c H locs cells slots Q (F0 m pc ls (.int n :: rest)) :=
  xs_cnew .byte .byte 0 (xsCB X) rfl rfl (fun cA h1 h2 => Option.some.inj (h1.symm.trans h2)) C hac hP hD hS (fun _ => rfl) hn hN hbytes hr hdg kk
theorem xs_cnewJ {n : Int32} (N' : Nat) (C : xsC p s m c cc args own nL X) (hac : Cond.arrayClass .long ∈ xsGt) (hP : va_P (xsD X) vwCl (W0 ++ L) H) (hD : va_D (xsF X) (W0 ++ L)) (hS : va_S (xsF X) s.heap H locs) (hn : ¬ n < 0) (hN : n.toNatClampNeg = N') (hbytes : N' * 8 ≤ 536870912) (hr : cells + 1 ≤ R.cells ∧ slots + N' ≤ R.slots) (hdg : decode cc pc = .ok (.newarray .long, 2))
    (kk : ∀ (q : Nat) (H1 : Heap), va_P (xsD X) vwCl (W0 ++ (L ++ [(q, .inl (xsCJ X, N', .inr (.inl (fun _ => 0))))])) H1 → va_D (xsF X) (W0 ++ (L ++ [(q, .inl (xsCJ X, N', .inr (.inl (fun _ => 0))))])) → va_S (xsF X) s.heap H1 locs → W p l e R s m args below meth c H1 locs (cells + 1) (slots + N') Q (F0 m (pc + 2) ls (.ref q :: rest))) : W p l e R s m args below meth c H locs cells slots Q (F0 m pc ls (.int n :: rest)) :=
  xs_cnew .long .long 2 (xsCJ X) rfl rfl (fun cA h1 h2 => Option.some.inj (h1.symm.trans h2)) C hac hP hD hS (fun _ => rfl) hn hN hbytes hr hdg kk
theorem xs_cnewq {n : Int32} (N' : Nat) (C : xsC p s m c cc args own nL X) (hcl : Cond.classLink own index RX7 ∈ xsGt) (hP : va_P (xsD X) vwCl (W0 ++ L) H) (hD : va_D (xsF X) (W0 ++ L)) (hS : va_S (xsF X) s.heap H locs) (hn : ¬ n < 0) (hN : n.toNatClampNeg = N') (hbytes : N' * 4 ≤ 536870912) (hr : cells + 1 ≤ R.cells ∧ slots + N' ≤ R.slots) (hdg : decode cc pc = .ok (.anewarray index, 3))
    (kk : ∀ (q : Nat) (H1 : Heap), va_P (xsD X) vwCl (W0 ++ (L ++ [(q, .inl (xsCS X, N', .inr (.inr (.inr (.inr (fun _ => none))))))])) H1 → va_D (xsF X) (W0 ++ (L ++ [(q, .inl (xsCS X, N', .inr (.inr (.inr (.inr (fun _ => none))))))])) → va_S (xsF X) s.heap H1 locs → W p l e R s m args below meth c H1 locs (cells + 1) (slots + N') Q (F0 m (pc + 3) ls (.ref q :: rest))) : W p l e R s m args below meth c H locs cells slots Q (F0 m pc ls (.int n :: rest)) := by
  refine va_newq C.1 C.2.1 C.2.2.2.1 (xs_kts C _ hcl) C.2.2.2.2.2.2.2.2.2.1.2.2.2 C.2.2.2.2.2.1 hP hD hS (xs_cA C) hn hN hbytes hr.1 hr.2 hdg (fun q cA H1 hK hP hD hS => ?_)
  have h1 : (xsTy X ++ [(cA, .object RX7)])[(xsTy X).length]? = some (cA, .object RX7) := by simp
  have h2 : (xsTy X)[3]? = some (xsCS X, .object RX7) := rfl
  obtain ⟨-, -, -, -, -, g1⟩ := (hK.2 _ _ h1).2
  obtain ⟨-, -, -, -, -, g2⟩ := (C.2.2.2.2.2.1.2 _ _ h2).2
  have e : cA = xsCS X := Option.some.inj (g1.symm.trans g2)
  subst e
  exact kk q H1 (List.append_assoc W0 L _ ▸ hP) (List.append_assoc W0 L _ ▸ hD) hS
theorem xs_cobj (ty : Nat → FieldType) (hty : ∀ k, k < N → parseFieldDescriptor (T k).2.2.1 = some (ty k)) (C : xsC p s m c cc args own nL X) (hin : ∀ w ∈ u_ws Cn T N, w ∈ xsGt) (hcl : Cond.classLink own index Cn ∈ xsGt) (hinst : Cond.instantiable Cn N ∈ xsGt) (hini : Cond.initialized Cn ∈ xsGt) (hP : va_P (xsD X) vwCl (W0 ++ L) H) (hD : va_D (xsF X) (W0 ++ L)) (hS : va_S (xsF X) s.heap H locs) (hc : vwCl[ci]? = some (Cn, T, N)) (hfs : ∀ j, j < N → defaultValue (ty j) = vp_V fs j) (hr : cells + 1 ≤ R.cells ∧ slots + N ≤ R.slots) (hdg : decode cc pc = .ok (.new index, 3))
    (kk : ∀ (q : Nat) (H1 : Heap), va_P (xsD X) vwCl (W0 ++ (L ++ [(q, .inr (ci, fs))])) H1 → va_D (xsF X) (W0 ++ (L ++ [(q, .inr (ci, fs))])) → va_S (xsF X) s.heap H1 locs → W p l e R s m args below meth c H1 locs (cells + 1) (slots + N) Q (F0 m (pc + 3) ls (.ref q :: rest))) : W p l e R s m args below meth c H locs cells slots Q (F0 m pc ls rest) :=
  va_new C.1 C.2.1 (xs_kts C) hin ty hty C.2.2.2.1 (xs_kts C _ hcl) (xs_kts C _ hinst) (xs_kts C _ hini) C.2.2.2.2.2.1 hP hD hS (xs_cA C) hc hfs hr.1 hr.2 hdg (fun q H1 hP hD hS => kk q H1 (List.append_assoc W0 L _ ▸ hP) (List.append_assoc W0 L _ ▸ hD) hS)
theorem xs_cput (q0 : Nat) (ty0 : Nat → FieldType) (hty : ∀ k, k < N → parseFieldDescriptor (T k).2.2.1 = some (ty0 k)) (hnm : ∀ a, a < N → ∀ b, b < N → a ≠ b → (T a).2.1 ≠ (T b).2.1) (C : xsC p s m c cc args own nL X) (hP : va_P (xsD X) vwCl (W0 ++ L) H) (hD : va_D (xsF X) (W0 ++ L)) (hS : va_S (xsF X) s.heap H locs) (he : L[q0]? = some (a, .inr (ci, fs))) (hc : vwCl[ci]? = some (Cn, T, N)) (hin : ∀ w ∈ u_ws Cn T N, w ∈ xsGt) (hk : k < N) (hlink : Cond.fieldLink own index (T k).1 (T k).2.1 (T k).2.2.1 ∈ xsGt) (hfin : (T k).2.2.2 = false) (hn : narrow (ty0 k) v = v) (hfit : fits (ty0 k) v = true) (hl : k < fs.length) (hw : L.set q0 (a, .inr (ci, fs.set k v)) = L') (hdg : decode cc pc = .ok (.putfield index, 3))
    (kk : ∀ (H1 : Heap) (locs1 : List Loc), va_P (xsD X) vwCl (W0 ++ L') H1 → va_D (xsF X) (W0 ++ L') → va_S (xsF X) s.heap H1 locs1 → W p l e R s m args below meth c H1 locs1 cells slots Q (F0 m (pc + 3) ls rest)) : W p l e R s m args below meth c H locs cells slots Q (F0 m pc ls (v :: .ref a :: rest)) :=
  xs_put C hP hD hS (xs_apk q0 he) hc hin ty0 hty hnm hk hlink hfin hn hfit hl (xs_aps q0 hw) hdg kk
theorem xs_cputF (q0 : Nat) (ty0 : Nat → FieldType) (hty : ∀ k, k < N → parseFieldDescriptor (T k).2.2.1 = some (ty0 k)) (hnm : ∀ a, a < N → ∀ b, b < N → a ≠ b → (T a).2.1 ≠ (T b).2.1) (C : xsC p s m c cc args own nL X) (hmi : meth.name = "<init>") (hP : va_P (xsD X) vwCl (W0 ++ L) H) (hD : va_D (xsF X) (W0 ++ L)) (hS : va_S (xsF X) s.heap H locs) (he : L[q0]? = some (a, .inr (ci, fs))) (hc : vwCl[ci]? = some (Cn, T, N)) (hin : ∀ w ∈ u_ws Cn T N, w ∈ xsGt) (hk : k < N) (hlink : Cond.fieldLink own index (T k).1 (T k).2.1 (T k).2.2.1 ∈ xsGt) (hfin : (T k).2.2.2 = true) (hdecl : (T k).1 = own) (hn : narrow (ty0 k) v = v) (hfit : fits (ty0 k) v = true) (hl : k < fs.length) (hw : L.set q0 (a, .inr (ci, fs.set k v)) = L') (hdg : decode cc pc = .ok (.putfield index, 3))
    (kk : ∀ (H1 : Heap) (locs1 : List Loc), va_P (xsD X) vwCl (W0 ++ L') H1 → va_D (xsF X) (W0 ++ L') → va_S (xsF X) s.heap H1 locs1 → W p l e R s m args below meth c H1 locs1 cells slots Q (F0 m (pc + 3) ls rest)) : W p l e R s m args below meth c H locs cells slots Q (F0 m pc ls (v :: .ref a :: rest)) := by
  refine va_putF C.1 C.2.1 (xs_kts C) hin ty0 hty hnm C.2.2.2.1 C.2.2.2.2.2.1 hP hD hS (W0.length + q0) (xs_apk q0 he) hc k hk (xs_kts C _ hlink) (fun _ h => h) hfin hmi hdecl (hty k hk) hn hfit hl hdg ?_
  rw [xs_aps q0 hw]
  exact kk
theorem xs_cinit (C : xsC p s m c cc args own nL X) (hlink : Cond.methodLink own index Lib.objectInit ∈ xsGt) (hinst : Cond.instanceMethod Lib.objectInit ∈ xsGt) (hcode : Cond.code Lib.objectInit ⟨#[0xb1]⟩ 1 none ∈ xsGt) (hls : ls.size = nL) (hr : 1 ≤ R.frames ∧ (rest.map fun v => v.category).sum + 12 ≤ R.locals) (hdg : decode cc pc = .ok (.invokespecial index, 3))
    (kk : W p l e R s m args below meth c H locs cells slots Q (F0 m (pc + 3) ls rest)) : W p l e R s m args below meth c H locs cells slots Q (F0 m pc ls (.ref a :: rest)) :=
  W.objInit C.1 C.2.1 C.2.2.2.1 (xs_kts C _ hlink) (xs_kts C _ hinst) (xs_kts C _ hcode) rfl (by rw [C.2.2.1]; exact hls) rfl hdg hr.1 (by show 2 * 0 + _ + 12 ≤ _; omega) kk
/-- a call of a constructor, the object's cell being the last one -/
theorem xs_ccall {y : MethodName} {b : ByteArray} {nM : Nat} {rm : Room} {P : va_W → Prop} {L1 : va_W} {e0 : va_E} (C : xsC p s m c cc args own nL X) (hM : Met l y (xsWs y b nM none) rm (xsP X ((W0 ++ L1) ++ [(a, e0)]) [.ref a]) (xsXv X P) mc ms (xsF X)) (hl : Cond.methodLink own index y ∈ xsGt) (hi : Cond.instanceMethod y ∈ xsGt) (hini : Cond.initialized y.cls ∈ xsGt) (hcd : Cond.code y b nM none ∈ xsGt) (hy : y.name = "<init>")
    (hd : y.cls ≠ "java/lang/invoke/MethodHandle" ∧ y.cls ≠ "java/lang/invoke/VarHandle" ∧ (parseMethodDescriptor y.desc).map (fun d => d.parameters.length) = some 0) (hr : rm.cells = mc ∧ rm.slots = ms ∧ rm.frames + 1 ≤ R.frames ∧ 8 + (nM + 11) + rm.locals ≤ R.locals ∧ cells + mc ≤ R.cells ∧ slots + ms ≤ R.slots)
    (hP : va_P (xsD X) vwCl (W0 ++ L) H) (hD : va_D (xsF X) (W0 ++ L)) (hS : va_S (xsF X) s.heap H locs) (hL : L = L1 ++ [(a, e0)]) (hls : ls.size = nL) (hcat : (rest.map fun v => v.category).sum ≤ 8) (hdg : decode cc pc = .ok (.invokespecial index, 3))
    (kk : ∀ (u : va_W) (H1 : Heap) (locs1 : List Loc), P u → va_P (xsD X) vwCl u H1 → va_D (xsF X) u → va_S (xsF X) s.heap H1 locs1 → W p l e R s m args below meth c H1 locs1 (cells + mc) (slots + ms) Q (F0 m (pc + 3) ls rest)) : W p l e R s m args below meth c H locs cells slots Q (F0 m pc ls (.ref a :: rest)) := by
  subst hL
  rw [← List.append_assoc] at hP hD
  obtain ⟨h1, h2, h3, h4, h5, h6⟩ := hr
  refine va_callv (A0 := xsF X) (va_runI (As := []) (rest := rest) ⟨C.1, C.2.1, C.2.2.1, C.2.2.2.1, xs_kts C⟩ hM (cwI 0 (xs_kts C) (xs_gws hcd) rfl h1 h2 (xs_kts C _ hini) (xs_kts C _ hl) (xs_kts C _ hi) hy hd ⟨h3, h4⟩) ⟨xsP_blind, fun U hU hW => ⟨rfl, xsE_move C.2.2.2.2.2 hS hU hW, by rw [hU]; exact hP, hD⟩⟩ rfl rfl hls rfl (lv_room hcat) hdg ⟨h5, h6⟩) hS (fun _ _ h => h) (fun _ h => h) (fun u t H1 locs1 ht hvm hw hB hz hk hS1 => ?_)
  subst ht
  exact kk u _ locs1 hw hB.1 hB.2 hS1
theorem xs_cvret {P : va_W → Prop} {w : va_W} (C : xsC p s m c cc args own nL X) (hr : meth.sig.returnType = none) (hlk : meth.locks = false) (hp : P w) (hP : va_P (xsD X) vwCl w H) (hD : va_D (xsF X) w) (hS : va_S (xsF X) s.heap H locs) (hc : cells ≤ mc) (hs : slots ≤ ms) (hdg : decode cc pc = .ok (.return_, 1)) :
    W p l e R s m args below meth c H locs cells slots (MQ below (xsXv X P) args s mc ms (xsF X)) (F0 m pc ls []) :=
  W.widen hc hs (W.vret C.1 C.2.1 hr (fun t ht hW => ⟨⟨w, rfl, hp, by rw [ht]; exact hP, hD⟩, hS.F ht⟩) hS.2.2 hdg hlk)
theorem xs_cmet {y : MethodName} {b : ByteArray} {nM : Nat} {ret : Option FieldType} {rm : Room} {w : va_W} {Qc : Array Value → State → Outcome → State → Prop} (own : String) (hy : plainName y.cls = true) (hown : y.cls = own) (hyn : y.name = "<init>") {av : List Value} (hav : (lg_sl av).length ≤ nM)
    (body : ∀ (p : Program) (e : Env) (s : State) (m : MethodId) (below : List Frame) (meth : Method) (c : Code) (ls : Array Slot) (H : Heap) (locs : List Loc), xsC p s m c b av.toArray own nM X → meth.name = "<init>" → va_P (xsD X) vwCl w H → va_D (xsF X) w → va_S (xsF X) s.heap H locs → meth.sig.returnType = ret → meth.locks = false → lv_has ls nM (lv_args 0 av) →
      W p l e rm s m av.toArray below meth c H locs 0 0 (MQ below Qc av.toArray s mc ms (xsF X)) (F0 m 0 ls [])) : Met l y (xsWs y b nM ret) rm (xsP X w av) Qc mc ms (xsF X) := by
  refine Met.ofW (cc := b) (maxL := nM) (ret := ret) hy rfl ?_
  intro p e s m args below meth c s₁ B hml hv
  obtain ⟨rfl, hE, hP, hD⟩ := hv
  have hts := atoms_spec (ws := xsWs y b nM ret) B.pre
  have hl := lv_entry av hav
  have hin : meth.name = "<init>" := by rw [← hyn]; exact (name_of_methodNamed B.named B.method).1
  rw [lg_entry_eq]
  generalize (lg_sl av ++ List.replicate (nM - (lg_sl av).length) Slot.unset).toArray = ls at hl ⊢
  exact body p e s m below meth c ls s.heap [] ⟨B.exec, B.bytes, hml, hown ▸ findClass_of_methodNamed B.named, fun w h => hts w (List.mem_cons_of_mem _ h), hE⟩ hin hP hD va_S.rf B.returns B.notSynchronized hl
end XSK
theorem w_132 : Cond.instantiable RX10 9 ∈ xsGt := xs_w (xsT1 _ (List.mem_of_getElem? (i := 28) rfl)) rfl
theorem w_136 : Cond.methodLink RX10 1 Lib.objectInit ∈ xsGt := xs_w (xsT1 _ (List.mem_of_getElem? (i := 32) rfl)) rfl
theorem w_137 : Cond.instanceMethod Lib.objectInit ∈ xsGt := xs_w (xsT1 _ (List.mem_of_getElem? (i := 33) rfl)) rfl
theorem w_138 : Cond.code Lib.objectInit ⟨#[0xb1]⟩ 1 none ∈ xsGt := xs_w (xsT1 _ (List.mem_of_getElem? (i := 34) rfl)) rfl
theorem w_140 : Cond.instantiable RX7 6 ∈ xsGt := xs_w (xsT1 _ (List.mem_of_getElem? (i := 36) rfl)) rfl
theorem w_144 : Cond.methodLink RX7 3 Lib.objectInit ∈ xsGt := xs_w (xsT1 _ (List.mem_of_getElem? (i := 40) rfl)) rfl
theorem w_194 : Cond.arrayClass .int ∈ xsGt := xs_w (xsT1 _ (List.mem_of_getElem? (i := 90) rfl)) rfl
theorem w_196 : Cond.instantiable RX3 3 ∈ xsGt := xs_w (xsT1 _ (List.mem_of_getElem? (i := 92) rfl)) rfl
theorem w_200 : Cond.methodLink RX3 3 Lib.objectInit ∈ xsGt := xs_w (xsT1 _ (List.mem_of_getElem? (i := 96) rfl)) rfl
theorem w_216 : Cond.instantiable RX6 7 ∈ xsGt := xs_w (xsT1 _ (List.mem_of_getElem? (i := 112) rfl)) rfl
theorem w_220 : Cond.methodLink RX6 3 Lib.objectInit ∈ xsGt := xs_w (xsT1 _ (List.mem_of_getElem? (i := 116) rfl)) rfl
theorem w_248 : Cond.arrayClass .byte ∈ xsGt := xs_w (xsT1 _ (List.mem_of_getElem? (i := 144) rfl)) rfl
theorem w_250 : Cond.instantiable RX5 5 ∈ xsGt := xs_w (xsT1 _ (List.mem_of_getElem? (i := 146) rfl)) rfl
theorem w_254 : Cond.methodLink RX5 3 Lib.objectInit ∈ xsGt := xs_w (xsT1 _ (List.mem_of_getElem? (i := 150) rfl)) rfl
theorem w_256 : Cond.instantiable RX0 8 ∈ xsGt := xs_w (xsT1 _ (List.mem_of_getElem? (i := 152) rfl)) rfl
theorem w_260 : Cond.methodLink RX0 1 Lib.objectInit ∈ xsGt := xs_w (xsT1 _ (List.mem_of_getElem? (i := 156) rfl)) rfl
theorem w_299 : Cond.instantiable RX9 5 ∈ xsGt := xs_w (xsT1 _ (List.mem_of_getElem? (i := 195) rfl)) rfl
theorem w_303 : Cond.methodLink RX9 3 Lib.objectInit ∈ xsGt := xs_w (xsT1 _ (List.mem_of_getElem? (i := 199) rfl)) rfl
theorem w_324 : Cond.instantiable RX1 11 ∈ xsGt := xs_w (xsT1 _ (List.mem_of_getElem? (i := 220) rfl)) rfl
theorem w_328 : Cond.methodLink RX1 3 Lib.objectInit ∈ xsGt := xs_w (xsT1 _ (List.mem_of_getElem? (i := 224) rfl)) rfl
theorem w_381 : Cond.arrayClass .long ∈ xsGt := xs_w (xsT2 _ (List.mem_of_getElem? (i := 37) rfl)) rfl
theorem w_383 : Cond.instantiable RX2 5 ∈ xsGt := xs_w (xsT2 _ (List.mem_of_getElem? (i := 39) rfl)) rfl
theorem w_387 : Cond.methodLink RX2 3 Lib.objectInit ∈ xsGt := xs_w (xsT2 _ (List.mem_of_getElem? (i := 43) rfl)) rfl
theorem w_428 : Cond.instantiable RX4 5 ∈ xsGt := xs_w (xsT2 _ (List.mem_of_getElem? (i := 84) rfl)) rfl
theorem w_432 : Cond.methodLink RX4 3 Lib.objectInit ∈ xsGt := xs_w (xsT2 _ (List.mem_of_getElem? (i := 88) rfl)) rfl
theorem w_1348 : Cond.instantiable RX11 48 ∈ xsGt := xs_w (xsT6 _ (List.mem_of_getElem? (i := 44) rfl)) rfl
theorem w_1352 : Cond.methodLink RX11 7 Lib.objectInit ∈ xsGt := xs_w (xsT6 _ (List.mem_of_getElem? (i := 48) rfl)) rfl
def xsDf_X0 : List Value := [.int 0, .long 0, .long 0, .long 0, .int 0, .int 0, .int 0, .int 0]
theorem xsDf_X0_ok : ∀ j, j < 8 → defaultValue (tyX0 j) = vp_V xsDf_X0 j := fun j hj => by
  rcases (show j = 0 ∨ j = 1 ∨ j = 2 ∨ j = 3 ∨ j = 4 ∨ j = 5 ∨ j = 6 ∨ j = 7 by omega) with rfl | rfl | rfl | rfl | rfl | rfl | rfl | rfl <;> rfl
def xsDf_X1 : List Value := [.null, .null, .null, .null, .null, .null, .null, .null, .int 0, .int 0, .int 0]
theorem xsDf_X1_ok : ∀ j, j < 11 → defaultValue (tyX1 j) = vp_V xsDf_X1 j := fun j hj => by
  rcases (show j = 0 ∨ j = 1 ∨ j = 2 ∨ j = 3 ∨ j = 4 ∨ j = 5 ∨ j = 6 ∨ j = 7 ∨ j = 8 ∨ j = 9 ∨ j = 10 by omega) with rfl | rfl | rfl | rfl | rfl | rfl | rfl | rfl | rfl | rfl | rfl <;> rfl
def xsDf_X2 : List Value := [.null, .int 0, .null, .null, .int 0]
theorem xsDf_X2_ok : ∀ j, j < 5 → defaultValue (tyX2 j) = vp_V xsDf_X2 j := fun j hj => by
  rcases (show j = 0 ∨ j = 1 ∨ j = 2 ∨ j = 3 ∨ j = 4 by omega) with rfl | rfl | rfl | rfl | rfl <;> rfl
def xsDf_X3 : List Value := [.null, .int 0, .int 0]
theorem xsDf_X3_ok : ∀ j, j < 3 → defaultValue (tyX3 j) = vp_V xsDf_X3 j := fun j hj => by
  rcases (show j = 0 ∨ j = 1 ∨ j = 2 by omega) with rfl | rfl | rfl <;> rfl
def xsDf_X4 : List Value := [.null, .null, .int 0, .int 0, .int 0]
theorem xsDf_X4_ok : ∀ j, j < 5 → defaultValue (tyX4 j) = vp_V xsDf_X4 j := fun j hj => by
  rcases (show j = 0 ∨ j = 1 ∨ j = 2 ∨ j = 3 ∨ j = 4 by omega) with rfl | rfl | rfl | rfl | rfl <;> rfl
def xsDf_X5 : List Value := [.null, .null, .null, .null, .int 0]
theorem xsDf_X5_ok : ∀ j, j < 5 → defaultValue (tyX5 j) = vp_V xsDf_X5 j := fun j hj => by
  rcases (show j = 0 ∨ j = 1 ∨ j = 2 ∨ j = 3 ∨ j = 4 by omega) with rfl | rfl | rfl | rfl | rfl <;> rfl
def xsDf_X6 : List Value := [.null, .null, .null, .int 0, .int 0, .int 0, .int 0]
theorem xsDf_X6_ok : ∀ j, j < 7 → defaultValue (tyX6 j) = vp_V xsDf_X6 j := fun j hj => by
  rcases (show j = 0 ∨ j = 1 ∨ j = 2 ∨ j = 3 ∨ j = 4 ∨ j = 5 ∨ j = 6 by omega) with rfl | rfl | rfl | rfl | rfl | rfl | rfl <;> rfl
def xsDf_X7 : List Value := [.null, .null, .null, .null, .null, .int 0]
theorem xsDf_X7_ok : ∀ j, j < 6 → defaultValue (tyX7 j) = vp_V xsDf_X7 j := fun j hj => by
  rcases (show j = 0 ∨ j = 1 ∨ j = 2 ∨ j = 3 ∨ j = 4 ∨ j = 5 by omega) with rfl | rfl | rfl | rfl | rfl | rfl <;> rfl
def xsDf_X9 : List Value := [.null, .null, .int 0, .int 0, .int 0]
theorem xsDf_X9_ok : ∀ j, j < 5 → defaultValue (tyX9 j) = vp_V xsDf_X9 j := fun j hj => by
  rcases (show j = 0 ∨ j = 1 ∨ j = 2 ∨ j = 3 ∨ j = 4 by omega) with rfl | rfl | rfl | rfl | rfl <;> rfl
def xsDf_X10 : List Value := [.null, .null, .null, .null, .null, .null, .null, .int 0, .int 0]
theorem xsDf_X10_ok : ∀ j, j < 9 → defaultValue (tyX10 j) = vp_V xsDf_X10 j := fun j hj => by
  rcases (show j = 0 ∨ j = 1 ∨ j = 2 ∨ j = 3 ∨ j = 4 ∨ j = 5 ∨ j = 6 ∨ j = 7 ∨ j = 8 by omega) with rfl | rfl | rfl | rfl | rfl | rfl | rfl | rfl | rfl <;> rfl
def xsDf_X11 : List Value := [.int 0, .null, .null, .null, .null, .int 0, .int 0, .int 0, .null, .null, .null, .long 0, .long 0, .long 0, .null, .null, .null, .int 0, .null, .null, .null, .null, .null, .null, .int 0, .int 0, .null, .null, .null, .null, .int 0, .int 0, .int 0, .int 0, .int 0, .null, .null, .int 0, .null, .null, .null, .null, .null, .null, .long 0, .long 0, .null, .null]
theorem xsDf_X11_ok : ∀ j, j < 48 → defaultValue (tyX11 j) = vp_V xsDf_X11 j := fun j hj => by
  rcases (show j = 0 ∨ j = 1 ∨ j = 2 ∨ j = 3 ∨ j = 4 ∨ j = 5 ∨ j = 6 ∨ j = 7 ∨ j = 8 ∨ j = 9 ∨ j = 10 ∨ j = 11 ∨ j = 12 ∨ j = 13 ∨ j = 14 ∨ j = 15 ∨ j = 16 ∨ j = 17 ∨ j = 18 ∨ j = 19 ∨ j = 20 ∨ j = 21 ∨ j = 22 ∨ j = 23 ∨ j = 24 ∨ j = 25 ∨ j = 26 ∨ j = 27 ∨ j = 28 ∨ j = 29 ∨ j = 30 ∨ j = 31 ∨ j = 32 ∨ j = 33 ∨ j = 34 ∨ j = 35 ∨ j = 36 ∨ j = 37 ∨ j = 38 ∨ j = 39 ∨ j = 40 ∨ j = 41 ∨ j = 42 ∨ j = 43 ∨ j = 44 ∨ j = 45 ∨ j = 46 ∨ j = 47 by omega) with rfl | rfl | rfl | rfl | rfl | rfl | rfl | rfl | rfl | rfl | rfl | rfl | rfl | rfl | rfl | rfl | rfl | rfl | rfl | rfl | rfl | rfl | rfl | rfl | rfl | rfl | rfl | rfl | rfl | rfl | rfl | rfl | rfl | rfl | rfl | rfl | rfl | rfl | rfl | rfl | rfl | rfl | rfl | rfl | rfl | rfl | rfl | rfl <;> rfl
