theorem w_799 : Cond.fieldLink RJ0 38 "java/lang/String" "COMPACT_STRINGS" "Z" ∈ xsGt := xs_w (xsT3 _ (List.mem_of_getElem? (i := 215) rfl)) rfl
theorem w_815 : Cond.fieldLink RJ0 1053 "jdk/internal/util/Preconditions" "SIOOBE_FORMATTER" "Ljava/util/function/BiFunction;" ∈ xsGt := xs_w (xsT3 _ (List.mem_of_getElem? (i := 231) rfl)) rfl
theorem w_1987 : Cond.fieldLink RJ0 9 "java/lang/String" "value" "[B" ∈ xsGt := xs_w (xsT8 _ (List.mem_of_getElem? (i := 203) rfl)) rfl
theorem w_1988 : Cond.fieldLink RJ0 15 "java/lang/String" "coder" "B" ∈ xsGt := xs_w (xsT8 _ (List.mem_of_getElem? (i := 204) rfl)) rfl
def xsLen (k : Nat) : Nat := [3, 4, 3, 4, 2, 4].getD k 0
def xsByt (k : Nat) : List Int32 := [[115, 101, 103], [116, 105, 110, 116], [99, 117, 116], [109, 111, 118, 101], [98, 121], [116, 117, 114, 110]].getD k []
def xsChr (k j : Nat) : Int32 := (xsByt k).getD j 0
theorem xsChr_ok : ∀ k, k < 6 → ∀ j, j < xsLen k → ((xsChr k j &&& 255).toUInt32 % 65536).toInt32 = xsChr k j ∧ narrow .char (.int (xsChr k j)) = .int (xsChr k j) := by decide +kernel
section XSG
variable {p : Program} {l : Launch} {e : Env} {R : Room} {s : State} {m : MethodId} {args : Array Value} {below : List Frame} {meth : Method} {c : Code} {H : Heap} {locs : List Loc} {cells slots : Nat} {Q : State → Prop}
variable {cc : ByteArray} {pc nL : Nat} {ls : Array Slot} {rest : List Value} {own : String} {X : xsX} {w : va_W}
theorem xs_bret {r : Int32} {ty : FieldType} (C : xsC p s m c cc args own nL X) (hr : meth.sig.returnType = some ty) (hn : narrow ty (.int r) = .int r) (hlk : meth.locks = false) (hP : va_P (xsD X) vwCl w H) (hD : va_D (xsF X) w) (hS : va_S (xsF X) s.heap H locs) (hdg : decode cc pc = .ok (.ireturn, 1)) :
    W p l e R s m args below meth c H locs 0 0 (MQ below (xsQi X r w) args s 0 0 (xsF X)) (F0 m pc ls [.int r]) :=
  W.zret C.1 C.2.1 hr hn (fun t ht hW => ⟨⟨r, (), rfl, rfl, by rw [ht]; exact hP, hD⟩, hS.F ht⟩) hS.2.2 hdg hlk
theorem xs_ldcSW {tx : String} {index q : Nat} (C : xsC p s m c cc args own nL X) (hZ : vk_R own index tx q s) (hdg : decode cc pc = .ok (.ldc_w index, 3))
    (k : W p l e R s m args below meth c H locs cells slots Q (F0 m (pc + 3) ls (.ref q :: rest))) : W p l e R s m args below meth c H locs cells slots Q (F0 m pc ls rest) := by
  intro T hT X'
  obtain ⟨t, a1, b1⟩ := k T hT X'
  exact ⟨t, X'.ldcStringW C.1 C.2.2.2.1 (text := tx) (a := q) hZ.1 hZ.2 (g := F0 m pc ls rest) rfl (by rw [C.2.1]; exact hdg) t a1, b1⟩
end XSG
section XSRV
variable {p : Program} {l : Launch} {e : Env} {R : Room} {s : State} {m : MethodId} {args : Array Value} {below : List Frame} {meth : Method} {c : Code} {H : Heap} {locs : List Loc} {cells slots : Nat} {Q : State → Prop}
variable {cc : ByteArray} {pc nL index : Nat} {ls : Array Slot} {rest st As : List Value} {own : String} {X : xsX} {w w' : va_W} {a : Nat} {y : MethodName} {b : ByteArray} {nM : Nat} {ret : Option FieldType} {rm : Room} {Qc : Array Value → State → Outcome → State → Prop}
theorem xs_runVx (C : xsC p s m c cc args own nL X) (hM : Met l y (xsWs y b nM ret) rm (xsP X w (.ref a :: As)) Qc 0 0 (xsF X)) (hl : Cond.methodLink own index y ∈ xsGt) (hi : Cond.instanceMethod y ∈ xsGt) (hs : Cond.selects y.cls y y ∈ xsGt) (hini : Cond.initialized y.cls ∈ xsGt) (hcd : Cond.code y b nM ret ∈ xsGt)
    (hd : y.cls ≠ "java/lang/invoke/MethodHandle" ∧ y.cls ≠ "java/lang/invoke/VarHandle" ∧ (parseMethodDescriptor y.desc).map (fun d => d.parameters.length) = some As.length) (hr : rm.cells = 0 ∧ rm.slots = 0 ∧ rm.frames + 1 ≤ R.frames ∧ 8 + (nM + 11) + rm.locals ≤ R.locals ∧ cells ≤ R.cells ∧ slots ≤ R.slots)
    (hP : va_P (xsD X) vwCl w H) (hD : va_D (xsF X) w) (hS : va_S (xsF X) s.heap H locs) (hrecv : ∃ cell : Cell, H[a]? = some cell ∧ cell.vm.isStatics = false ∧ s.vm.findClass y.cls = some cell.cls) (hls : ls.size = nL) (hst : st = As.reverse ++ .ref a :: rest) (hcat : (rest.map fun v => v.category).sum ≤ 8) (hdg : decode cc pc = .ok (.invokevirtual index, 3)) :
    va_Run p l e R s m args below meth c H locs cells slots 0 0 (F0 m pc ls st) rest (Qc (Value.ref a :: As).toArray) (xsF X) := by
  obtain ⟨h1, h2, h3, h4, h5, h6⟩ := hr
  have hG : GoodIn xsGt (wsV own index y.cls y (xsWs y b nM ret)) := fun w h => by
    rcases List.mem_append.mp h with h | h
    · refine xsGoodIn _ ?_
      simp only [List.mem_cons, List.mem_nil_iff, or_false] at h
      rcases h with rfl | rfl | rfl | rfl
      · exact hl
      · exact hi
      · exact hs
      · exact hini
    · exact xs_gws hcd _ h
  exact va_runV ⟨C.1, C.2.1, C.2.2.1, C.2.2.2.1, xs_kts C⟩ hM (cwV As.length (xs_kts C) hG rfl h1 h2 ⟨rfl, hd⟩ ⟨h3, h4⟩) ⟨xsP_blind, hrecv, fun U hU hW => ⟨rfl, xsE_move C.2.2.2.2.2 hS hU hW, by rw [hU]; exact hP, hD⟩⟩ rfl rfl hls hst (lv_room hcat) hdg ⟨h5, h6⟩
end XSRV
set_option maxRecDepth 100000 in
set_option maxHeartbeats 8000000 in
theorem mJ0_coder (l : Launch) {X : xsX} {w : va_W} {k : Nat} (hk : k < 6) : Met l yJ0_coder_7d493 (xsWs yJ0_coder_7d493 cJ0_coder_7d493 1 (some .byte)) { frames := 0, cells := 0, slots := 0, locals := 0 } (xsP X w [.ref (xsSK X k)]) (xsQi X 0 w) 0 0 (xsF X) := by
  refine xs_meth RJ0 (by decide) rfl (Nat.le_of_ble_eq_true rfl) ?_
  intro p e s m below meth c ls H locs C hP hD hS hr hlk hl
  have hx := C.1
  have hb := C.2.1
  have hl : lv_has ls 1 [(0, .ref (xsSK X k))] := hl
  obtain ⟨hO, hOc, hOv, hT⟩ := C.2.2.2.2.2.2.2.2.2.2.2.1.1 k hk
  refine va_gets hx hb C.2.2.2.2.2.2.2.2.2.2.2.2.1 hS C.2.2.2.1 (xs_kts C _ w_799) (fun _ h => h) dJ0_coder_7d493_0 ?_
  refine lv_if_eq (tgt := 13) hx hb dJ0_coder_7d493_3 (by decide) (fun c1 => absurd c1 (by decide)) (fun _ => ?_)
  refine lv_aload_n hx hb dJ0_coder_7d493_6 rfl (lv_at hl 0 rfl) ?_
  refine vk_getf hx hb hOc hS C.2.2.2.1 (xs_kts C _ w_1988) (fun _ h => h) dJ0_coder_7d493_7 ?_
  refine lv_goto (tgt := 14) hx hb dJ0_coder_7d493_10 (by decide) ?_
  exact xs_bret C hr rfl hlk hP hD hS dJ0_coder_7d493_14
set_option maxRecDepth 100000 in
set_option maxHeartbeats 8000000 in
theorem mJ0_isLatin1 (l : Launch) {X : xsX} {w : va_W} {k : Nat} (hk : k < 6) : Met l yJ0_isLatin1_aae02 (xsWs yJ0_isLatin1_aae02 cJ0_isLatin1_aae02 1 (some .boolean)) { frames := 0, cells := 0, slots := 0, locals := 0 } (xsP X w [.ref (xsSK X k)]) (xsQi X 1 w) 0 0 (xsF X) := by
  refine xs_meth RJ0 (by decide) rfl (Nat.le_of_ble_eq_true rfl) ?_
  intro p e s m below meth c ls H locs C hP hD hS hr hlk hl
  have hx := C.1
  have hb := C.2.1
  have hl : lv_has ls 1 [(0, .ref (xsSK X k))] := hl
  obtain ⟨hO, hOc, hOv, hT⟩ := C.2.2.2.2.2.2.2.2.2.2.2.1.1 k hk
  refine va_gets hx hb C.2.2.2.2.2.2.2.2.2.2.2.2.1 hS C.2.2.2.1 (xs_kts C _ w_799) (fun _ h => h) dJ0_isLatin1_aae02_0 ?_
  refine lv_if_eq (tgt := 17) hx hb dJ0_isLatin1_aae02_3 (by decide) (fun c1 => absurd c1 (by decide)) (fun _ => ?_)
  refine lv_aload_n hx hb dJ0_isLatin1_aae02_6 rfl (lv_at hl 0 rfl) ?_
  refine vk_getf hx hb hOc hS C.2.2.2.1 (xs_kts C _ w_1988) (fun _ h => h) dJ0_isLatin1_aae02_7 ?_
  refine lv_if_ne (tgt := 17) hx hb dJ0_isLatin1_aae02_10 (by decide) (fun c1 => absurd rfl c1) (fun _ => ?_)
  refine lv_iconst (v := 1) hx hb dJ0_isLatin1_aae02_13 (by decide) ?_
  refine lv_goto (tgt := 18) hx hb dJ0_isLatin1_aae02_14 (by decide) ?_
  exact xs_zret C hr hlk xsB_1 hP hD hS dJ0_isLatin1_aae02_18
set_option maxRecDepth 100000 in
set_option maxHeartbeats 8000000 in
theorem mJ0_length (l : Launch) {X : xsX} {w : va_W} {k : Nat} (hk : k < 6) : Met l yJ0_length_8abf5 (xsWs yJ0_length_8abf5 cJ0_length_8abf5 1 (some .int)) { frames := 1, cells := 0, slots := 0, locals := 20 } (xsP X w [.ref (xsSK X k)]) (xsQi X (nI (xsLen k)) w) 0 0 (xsF X) := by
  refine xs_meth RJ0 (by decide) rfl (Nat.le_of_ble_eq_true rfl) ?_
  intro p e s m below meth c ls H locs C hP hD hS hr hlk hl
  have hx := C.1
  have hb := C.2.1
  have hl : lv_has ls 1 [(0, .ref (xsSK X k))] := hl
  obtain ⟨hO, hOc, hOv, hT⟩ := C.2.2.2.2.2.2.2.2.2.2.2.1.1 k hk
  refine lv_aload_n hx hb dJ0_length_8abf5_0 rfl (lv_at hl 0 rfl) ?_
  refine vk_getf hx hb hOv hS C.2.2.2.1 (xs_kts C _ w_1987) (fun _ h => h) dJ0_length_8abf5_1 ?_
  refine va_tlen (v := nI (xsLen k)) hx hb hT hS rfl dJ0_length_8abf5_4 ?_
  refine lv_aload_n hx hb dJ0_length_8abf5_5 rfl (lv_at hl 0 rfl) ?_
  refine xs_calli hS (xs_runVx (As := []) C (mJ0_coder l hk) w_795 w_796 w_797 w_116 w_798 hd_J0_coder_7d493 ⟨rfl, rfl, Nat.le_of_ble_eq_true rfl, Nat.le_of_ble_eq_true rfl, Nat.zero_le _, Nat.zero_le _⟩ hP hD hS (vk_recv C.2.2.2.2.2.2.2.2.2.2.2.1 hk hS) hl.1 rfl (Nat.le_of_ble_eq_true rfl) dJ0_length_8abf5_6) (fun H locs hP hD hS => ?_)
  refine lv_ishr hx hb dJ0_length_8abf5_9 ?_
  rw [sb_shr0]
  exact xs_iret C hr hlk hP hD hS dJ0_length_8abf5_10
set_option maxRecDepth 100000 in
set_option maxHeartbeats 8000000 in
theorem mJ3_checkIndex (l : Launch) {X : xsX} {w : va_W} {i : Int32} {n : Nat} (hn : n < 2 ^ 31) (hi : vp_in i n) {v : Value} (hv : v = .null ∨ ∃ t, v = .ref t) : Met l yJ3_checkIndex_8e157 (xsWs yJ3_checkIndex_8e157 cJ3_checkIndex_8e157 3 (some .int)) { frames := 0, cells := 0, slots := 0, locals := 0 } (xsP X w [.int i, .int (nI n), v]) (xsQi X i w) 0 0 (xsF X) := by
  have hlen : (lg_sl [.int i, .int (nI n), v]).length ≤ 3 := by rcases hv with rfl | ⟨t, rfl⟩ <;> exact Nat.le_of_ble_eq_true rfl
  refine xs_meth RJ3 (by decide) rfl hlen ?_
  intro p e s m below meth c ls H locs C hP hD hS hr hlk hl
  have hx := C.1
  have hb := C.2.1
  have hl : lv_has ls 3 [(0, .int i), (1, .int (nI n)), (2, v)] := hl
  obtain ⟨j, hj, rfl⟩ := vp_in_of hi hn
  refine lv_iload_n hx hb dJ3_checkIndex_8e157_0 rfl (lv_at hl 0 rfl) ?_
  refine lv_if_lt (tgt := 9) hx hb dJ3_checkIndex_8e157_1 (by decide) (fun c1 => absurd c1 (nI_pos (by omega))) (fun _ => ?_)
  refine lv_iload_n hx hb dJ3_checkIndex_8e157_4 rfl (lv_at hl 0 rfl) ?_
  refine lv_iload_n hx hb dJ3_checkIndex_8e157_5 rfl (lv_at hl 1 rfl) ?_
  refine lv_icmp_lt (tgt := 16) hx hb dJ3_checkIndex_8e157_6 (by decide) (fun _ => ?_) (fun c1 => absurd (nI_lt hj hn) c1)
  refine lv_iload_n hx hb dJ3_checkIndex_8e157_16 rfl (lv_at hl 0 rfl) ?_
  exact xs_iret C hr hlk hP hD hS dJ3_checkIndex_8e157_17
set_option maxRecDepth 100000 in
set_option maxHeartbeats 8000000 in
theorem mJ0_checkIndex (l : Launch) {X : xsX} {w : va_W} {i : Int32} {n : Nat} (hn : n < 2 ^ 31) (hi : vp_in i n) : Met l yJ0_checkIndex_df160 (xsWs yJ0_checkIndex_df160 cJ0_checkIndex_df160 2 none) { frames := 1, cells := 0, slots := 0, locals := 22 } (xsP X w [.int i, .int (nI n)]) (xsQv X w) 0 0 (xsF X) := by
  refine xs_meth RJ0 (by decide) rfl (Nat.le_of_ble_eq_true rfl) ?_
  intro p e s m below meth c ls H locs C hP hD hS hr hlk hl
  have hx := C.1
  have hb := C.2.1
  have hl : lv_has ls 2 [(0, .int i), (1, .int (nI n))] := hl
  obtain ⟨v, hZ, hv⟩ : ∃ v, va_Z "jdk/internal/util/Preconditions" "SIOOBE_FORMATTER" "Ljava/util/function/BiFunction;" v (xsF X) s s.heap ∧ (v = .null ∨ ∃ t, v = .ref t) := by
    rcases C.2.2.2.2.2.2.2.2.2.2.2.2.2 with h | ⟨t, h⟩
    · exact ⟨_, h, Or.inl rfl⟩
    · exact ⟨_, h, Or.inr ⟨t, rfl⟩⟩
  refine lv_iload_n hx hb dJ0_checkIndex_df160_0 rfl (lv_at hl 0 rfl) ?_
  refine lv_iload_n hx hb dJ0_checkIndex_df160_1 rfl (lv_at hl 1 rfl) ?_
  refine va_gets hx hb hZ hS C.2.2.2.1 (xs_kts C _ w_815) (fun _ h => h) dJ0_checkIndex_df160_2 ?_
  refine xs_calli hS (xs_runS (As := [.int i, .int (nI n), v]) C (mJ3_checkIndex l hn hi hv) w_817 w_818 w_118 w_819 hd_J3_checkIndex_8e157 ⟨rfl, rfl, Nat.le_of_ble_eq_true rfl, Nat.le_of_ble_eq_true rfl, Nat.zero_le _, Nat.zero_le _⟩ hP hD hS hl.1 rfl (Nat.le_of_ble_eq_true rfl) dJ0_checkIndex_df160_5) (fun H locs hP hD hS => ?_)
  refine lv_pop hx hb dJ0_checkIndex_df160_8 rfl ?_
  exact xs_vret C hr hlk hP hD hS dJ0_checkIndex_df160_9
set_option maxRecDepth 100000 in
set_option maxHeartbeats 8000000 in
theorem mJ1_charAt (l : Launch) {X : xsX} {w : va_W} {k : Nat} (hk : k < 6) {i : Int32} (hi : vp_in i (xsLen k)) : Met l yJ1_charAt_3b067 (xsWs yJ1_charAt_3b067 cJ1_charAt_3b067 2 (some .char)) { frames := 2, cells := 0, slots := 0, locals := 43 } (xsP X w [.ref (xsSV X k), .int i]) (xsQi X (xsChr k i.toNatClampNeg) w) 0 0 (xsF X) := by
  refine xs_meth RJ1 (by decide) rfl (Nat.le_of_ble_eq_true rfl) ?_
  intro p e s m below meth c ls H locs C hP hD hS hr hlk hl
  have hx := C.1
  have hb := C.2.1
  have hl : lv_has ls 2 [(0, .ref (xsSV X k)), (1, .int i)] := hl
  obtain ⟨hO, hOc, hOv, hT⟩ := C.2.2.2.2.2.2.2.2.2.2.2.1.1 k hk
  have hlt : xsLen k < 2 ^ 31 := (show ∀ k, k < 6 → xsLen k < 2 ^ 31 by decide) k hk
  obtain ⟨j, hj, ej⟩ := vp_in_of hi hlt
  have hc := xsChr_ok k hk j hj
  have ejn : i.toNatClampNeg = j := by rw [ej]; exact nI_clamp (by omega)
  refine lv_iload_n hx hb dJ1_charAt_3b067_0 rfl (lv_at hl 1 rfl) ?_
  refine lv_aload_n hx hb dJ1_charAt_3b067_1 rfl (lv_at hl 0 rfl) ?_
  refine va_tlen (v := nI (xsLen k)) hx hb hT hS rfl dJ1_charAt_3b067_2 ?_
  refine xs_callv hS (xs_runS (As := [.int i, .int (nI (xsLen k))]) C (mJ0_checkIndex l hlt hi) w_812 w_813 w_116 w_814 hd_J0_checkIndex_df160 ⟨rfl, rfl, Nat.le_of_ble_eq_true rfl, Nat.le_of_ble_eq_true rfl, Nat.zero_le _, Nat.zero_le _⟩ hP hD hS hl.1 rfl (Nat.le_of_ble_eq_true rfl) dJ1_charAt_3b067_3) (fun H locs hP hD hS => ?_)
  refine lv_aload_n hx hb dJ1_charAt_3b067_6 rfl (lv_at hl 0 rfl) ?_
  refine lv_iload_n hx hb dJ1_charAt_3b067_7 rfl (lv_at hl 1 rfl) ?_
  refine va_tb (v := .int (xsChr k i.toNatClampNeg)) hx hb hT hS hi rfl dJ1_charAt_3b067_8 ?_
  refine lv_sipush (v := 255) hx hb dJ1_charAt_3b067_9 (by decide) ?_
  refine lv_iand hx hb dJ1_charAt_3b067_12 ?_
  refine lv_i2c (v := xsChr k i.toNatClampNeg) hx hb dJ1_charAt_3b067_13 (by rw [ejn]; exact hc.1) ?_
  exact xs_bret C hr (by rw [ejn]; exact hc.2) hlk hP hD hS dJ1_charAt_3b067_14
set_option maxRecDepth 100000 in
set_option maxHeartbeats 8000000 in
theorem mJ0_charAt (l : Launch) {X : xsX} {w : va_W} {k : Nat} (hk : k < 6) {i : Int32} (hi : vp_in i (xsLen k)) : Met l yJ0_charAt_5068e (xsWs yJ0_charAt_5068e cJ0_charAt_5068e 2 (some .char)) { frames := 3, cells := 0, slots := 0, locals := 64 } (xsP X w [.ref (xsSK X k), .int i]) (xsQi X (xsChr k i.toNatClampNeg) w) 0 0 (xsF X) := by
  refine xs_meth RJ0 (by decide) rfl (Nat.le_of_ble_eq_true rfl) ?_
  intro p e s m below meth c ls H locs C hP hD hS hr hlk hl
  have hx := C.1
  have hb := C.2.1
  have hl : lv_has ls 2 [(0, .ref (xsSK X k)), (1, .int i)] := hl
  obtain ⟨hO, hOc, hOv, hT⟩ := C.2.2.2.2.2.2.2.2.2.2.2.1.1 k hk
  have hlt : xsLen k < 2 ^ 31 := (show ∀ k, k < 6 → xsLen k < 2 ^ 31 by decide) k hk
  obtain ⟨j, hj, ej⟩ := vp_in_of hi hlt
  have hc := xsChr_ok k hk j hj
  have ejn : i.toNatClampNeg = j := by rw [ej]; exact nI_clamp (by omega)
  refine lv_aload_n hx hb dJ0_charAt_5068e_0 rfl (lv_at hl 0 rfl) ?_
  refine xs_calli hS (xs_runVx (As := []) C (mJ0_isLatin1 l hk) w_805 w_806 w_807 w_116 w_808 hd_J0_isLatin1_aae02 ⟨rfl, rfl, Nat.le_of_ble_eq_true rfl, Nat.le_of_ble_eq_true rfl, Nat.zero_le _, Nat.zero_le _⟩ hP hD hS (vk_recv C.2.2.2.2.2.2.2.2.2.2.2.1 hk hS) hl.1 rfl (Nat.le_of_ble_eq_true rfl) dJ0_charAt_5068e_1) (fun H locs hP hD hS => ?_)
  refine lv_if_eq (tgt := 16) hx hb dJ0_charAt_5068e_4 (by decide) (fun c1 => absurd c1 (by decide)) (fun _ => ?_)
  refine lv_aload_n hx hb dJ0_charAt_5068e_7 rfl (lv_at hl 0 rfl) ?_
  refine vk_getf hx hb hOv hS C.2.2.2.1 (xs_kts C _ w_1987) (fun _ h => h) dJ0_charAt_5068e_8 ?_
  refine lv_iload_n hx hb dJ0_charAt_5068e_11 rfl (lv_at hl 1 rfl) ?_
  refine xs_calli hS (xs_runS (As := [.ref (xsSV X k), .int i]) C (mJ1_charAt l hk hi) w_809 w_810 w_117 w_811 hd_J1_charAt_3b067 ⟨rfl, rfl, Nat.le_of_ble_eq_true rfl, Nat.le_of_ble_eq_true rfl, Nat.zero_le _, Nat.zero_le _⟩ hP hD hS hl.1 rfl (Nat.le_of_ble_eq_true rfl) dJ0_charAt_5068e_12) (fun H locs hP hD hS => ?_)
  exact xs_bret C hr (by rw [ejn]; exact hc.2) hlk hP hD hS dJ0_charAt_5068e_15
