/-! The combinators of which the functional texts of the methods are made -/
def xsLt {α β : Type} (e : α) (k : α → Option β) : Option β := k e
theorem xsLt_use {α β : Type} {e x : α} {k : α → Option β} {t : Option β} (h : x = e) (hf : xsLt e k = t) : k x = t := by subst h; exact hf
noncomputable def xsCk {β : Type} (c : Prop) (k : Option β) : Option β := @ite _ c (Classical.propDecidable c) k none
theorem xsCk_use {β : Type} {c : Prop} {k : Option β} {t : β} (h : xsCk c k = some t) : c ∧ k = some t := by
  unfold xsCk at h
  by_cases hc : c
  · rw [if_pos hc] at h; exact ⟨hc, h⟩
  · rw [if_neg hc] at h; cases h
theorem xsCk_pos {β : Type} {c : Prop} {k : Option β} (h : c) : xsCk c k = k := by unfold xsCk; rw [if_pos h]
noncomputable def xsBr {β : Type} (c : Prop) (a b : Option β) : Option β := @ite _ c (Classical.propDecidable c) a b
theorem xsBr_pos {β : Type} {c : Prop} {a b : Option β} (h : c) : xsBr c a b = a := by unfold xsBr; rw [if_pos h]
theorem xsBr_neg {β : Type} {c : Prop} {a b : Option β} (h : ¬ c) : xsBr c a b = b := by unfold xsBr; rw [if_neg h]
theorem xsBr_t {β : Type} {c : Prop} {a b : Option β} {t : Option β} (hc : c) (h : xsBr c a b = t) : a = t := (xsBr_pos hc).symm.trans h
theorem xsBr_f {β : Type} {c : Prop} {a b : Option β} {t : Option β} (hc : ¬ c) (h : xsBr c a b = t) : b = t := (xsBr_neg hc).symm.trans h
theorem xsBr_eq {β : Type} {c : Prop} [Decidable c] {a b : Option β} : xsBr c a b = if c then a else b := by
  by_cases h : c
  · rw [xsBr_pos h, if_pos h]
  · rw [xsBr_neg h, if_neg h]
def xsBd {α β : Type} (o : Option α) (k : α → Option β) : Option β := match o with
  | none => none
  | some v => k v
theorem xsBd_use {α β : Type} {o : Option α} {k : α → Option β} {t : β} (h : xsBd o k = some t) : ∃ v, o = some v ∧ k v = some t := by
  cases o with
  | none => cases h
  | some v => exact ⟨v, rfl, h⟩
theorem xsBd_some {α β : Type} {o : Option α} {v : α} {k : α → Option β} (h : o = some v) : xsBd o k = k v := by subst h; rfl
def xsSm {α β : Type} (v : α ⊕ β) (k : β → Option α) : Option α := match v with
  | .inl t => some t
  | .inr v => k v
def xsWhN {σ ρ : Type} (step : σ → Option (σ ⊕ ρ)) : Nat → σ → Option ρ
  | 0, _ => none
  | n + 1, s => match step s with
    | none => none
    | some (.inl s') => xsWhN step n s'
    | some (.inr r) => some r
theorem xsWhN_up {σ ρ : Type} {step : σ → Option (σ ⊕ ρ)} : ∀ {n : Nat} {s : σ} {r : ρ} (k : Nat), xsWhN step n s = some r → xsWhN step (n + k) s = some r
  | 0, s, r, k, h => by cases h
  | n + 1, s, r, k, h => by
    have e : n + 1 + k = (n + k) + 1 := by omega
    rw [e]
    unfold xsWhN at h ⊢
    cases hs : step s with
    | none => rw [hs] at h; cases h
    | some u =>
      rw [hs] at h
      cases u with
      | inl s' => exact xsWhN_up k h
      | inr r' => exact h
noncomputable def xsWh {σ ρ : Type} (step : σ → Option (σ ⊕ ρ)) (s : σ) : Option ρ :=
  @dite _ (∃ r n, xsWhN step n s = some r) (Classical.propDecidable _) (fun h => some (Classical.choose h)) (fun _ => none)
theorem xsWh_of {σ ρ : Type} {step : σ → Option (σ ⊕ ρ)} {n : Nat} {s : σ} {r : ρ} (h : xsWhN step n s = some r) : xsWh step s = some r := by
  have hx : ∃ r n, xsWhN step n s = some r := ⟨r, n, h⟩
  unfold xsWh
  rw [dif_pos hx]
  obtain ⟨n2, h2⟩ := Classical.choose_spec hx
  have a := xsWhN_up n2 h
  have b := xsWhN_up n h2
  rw [Nat.add_comm n2 n] at b
  exact b.symm.trans a
theorem xsWh_ex {σ ρ : Type} {step : σ → Option (σ ⊕ ρ)} {s : σ} {r : ρ} (h : xsWh step s = some r) : ∃ n, xsWhN step n s = some r := by
  unfold xsWh at h
  by_cases hx : ∃ r n, xsWhN step n s = some r
  · rw [dif_pos hx] at h
    obtain ⟨n2, h2⟩ := Classical.choose_spec hx
    exact ⟨n2, h2.trans h⟩
  · rw [dif_neg hx] at h; cases h
theorem xsWh_ind {σ ρ : Type} {step : σ → Option (σ ⊕ ρ)} {M : σ → ρ → Prop} (h : ∀ (s : σ) (r : ρ) (u : σ ⊕ ρ), step s = some u → (∀ s', u = .inl s' → M s' r) → (∀ r', u = .inr r' → r' = r) → M s r) : ∀ (s : σ) (r : ρ), xsWh step s = some r → M s r := by
  have key : ∀ (n : Nat) (s : σ) (r : ρ), xsWhN step n s = some r → M s r := by
    intro n
    induction n with
    | zero => intro s r h0; cases h0
    | succ n ih =>
      intro s r h0
      unfold xsWhN at h0
      cases hs : step s with
      | none => rw [hs] at h0; cases h0
      | some u =>
        rw [hs] at h0
        cases u with
        | inl s' => exact h s r _ hs (fun s2 e => by cases e; exact ih _ _ h0) (fun r' e => by cases e)
        | inr r2 => exact h s r _ hs (fun s2 e => by cases e) (fun r' e => by cases e; exact Option.some.inj h0)
  intro s r h0
  obtain ⟨n, hn⟩ := xsWh_ex h0
  exact key n s r hn
theorem xsWh_back {σ ρ : Type} {step : σ → Option (σ ⊕ ρ)} {s s' : σ} {r : ρ} (h : step s = some (.inl s')) (h2 : xsWh step s' = some r) : xsWh step s = some r := by
  obtain ⟨n, hn⟩ := xsWh_ex h2
  refine xsWh_of (n := n + 1) ?_
  unfold xsWhN
  rw [h]
  exact hn
theorem xsWh_exit {σ ρ : Type} {step : σ → Option (σ ⊕ ρ)} {s : σ} {r : ρ} (h : step s = some (.inr r)) : xsWh step s = some r := by
  refine xsWh_of (n := 1) ?_
  unfold xsWhN
  rw [h]
/-- a loop: an invariant, a measure, what holds at its exit -/
theorem xsWh_rule {σ ρ : Type} {step : σ → Option (σ ⊕ ρ)} (Inv : σ → Prop) (mu : σ → Nat) (Post : ρ → Prop)
    (h : ∀ s, Inv s → (∃ s', step s = some (.inl s') ∧ Inv s' ∧ mu s' < mu s) ∨ (∃ r, step s = some (.inr r) ∧ Post r)) : ∀ s, Inv s → ∃ r, xsWh step s = some r ∧ Post r := by
  have key : ∀ (n : Nat) (s : σ), mu s ≤ n → Inv s → ∃ r, xsWh step s = some r ∧ Post r := by
    intro n
    induction n with
    | zero =>
      intro s hn hi
      rcases h s hi with ⟨s', -, -, hm⟩ | ⟨r, h1, h2⟩
      · omega
      · exact ⟨r, xsWh_exit h1, h2⟩
    | succ n ih =>
      intro s hn hi
      rcases h s hi with ⟨s', h1, h2, hm⟩ | ⟨r, h1, h2⟩
      · obtain ⟨r, h3, h4⟩ := ih s' (by omega) h2
        exact ⟨r, xsWh_back h1 h3, h4⟩
      · exact ⟨r, xsWh_exit h1, h2⟩
  intro s hi
  exact key (mu s) s (Nat.le_refl _) hi
/-- a boolean's value -/
def xsB (v : Int32) : Prop := v = 0 ∨ v = 1
theorem xsB_0 : xsB 0 := Or.inl rfl
theorem xsB_1 : xsB 1 := Or.inr rfl
theorem xsB_nar {v : Int32} (h : xsB v) : narrow .boolean (.int v) = .int v := by rcases h with rfl | rfl <;> rfl
theorem xs_fitB {v : Int32} (h : xsB v) : fits .boolean (.int v) = true := by rcases h with rfl | rfl <;> rfl
/-- rows of rows of numbers -/
def xsUp (f : Nat → Nat → Int32) (k : Nat) (x : Nat → Int32) : Nat → Nat → Int32 := fun j => if j = k then x else f j
/-- a method's words: its code, and all the tables' good words -/
def xsWs (y : MethodName) (b : ByteArray) (n : Nat) (r : Option FieldType) : List Cond := Cond.code y b n r :: xsGt
abbrev xsX : Type := (va_G × (ClassId × ClassId × ClassId × ClassId)) × ((Nat → Nat) × Nat × (Nat → Nat) × (Nat → Nat))
abbrev xsD (X : xsX) : va_G := X.1.1
abbrev xsCB (X : xsX) : ClassId := X.1.2.1
abbrev xsCI (X : xsX) : ClassId := X.1.2.2.1
abbrev xsCJ (X : xsX) : ClassId := X.1.2.2.2.1
abbrev xsCS (X : xsX) : ClassId := X.1.2.2.2.2
abbrev xsA (X : xsX) : Nat → Nat := X.2.1
abbrev xsZ (X : xsX) : Nat := X.2.2.1
abbrev xsSK (X : xsX) : Nat → Nat := X.2.2.2.1
abbrev xsSV (X : xsX) : Nat → Nat := X.2.2.2.2
abbrev xsTy (X : xsX) : List (ClassId × FieldType) := [(xsCB X, .byte), (xsCI X, .int), (xsCJ X, .long), (xsCS X, .object RX7)]
def xsF (X : xsX) : Nat → Prop := fun q => xsZ X ≤ q
def xsNest (U : State) : Prop := va_Nw (.methodLinkNest RX9 30 yX10_has RX10) U ∧ va_Nw (.methodLinkNest RX2 46 yX10_has RX10) U ∧ va_Nw (.methodLinkNest RX8 21 yX10_has RX10) U ∧ va_Nw (.methodLinkNest RX5 130 yX10_has RX10) U ∧ va_Nw (.methodLinkNest RX7 43 yX10_isCoordinate RX10) U ∧ va_Nw (.methodLinkNest RX1 106 yX10_has RX10) U ∧ va_Nw (.methodLinkNest RX7 74 yX10_has RX10) U
def xsThr (X : xsX) (U : State) (H : Heap) : Prop := vx_Zq Bundle.tN "UNASSIGNED_STACK" Bundle.steD (xsF X) U H ∧ vx_Zq Bundle.tN "SUPPRESSED_SENTINEL" Bundle.listD (xsF X) U H
/-- the texts of the throws -/
def xsTx (U : State) : Prop := (∃ a, vk_R RX10 82 "the text is wrong" a U) ∧ (∃ a, vk_R RX10 432 "there is no such point" a U) ∧ (∃ a, vk_R RX10 434 "there is no such tint" a U) ∧ (∃ a, vk_R RX10 109 "there are 24 segments" a U) ∧ (∃ a, vk_R RX10 421 "there is no such one" a U) ∧ (∃ a, vk_R RX10 145 "an end would be beyond 999" a U) ∧ (∃ a, vk_R RX10 160 "nothing is remembered" a U) ∧ (∃ a, vk_R RX10 199 "no such question of a segment" a U) ∧ (∃ a, vk_R RX10 426 "both are one" a U) ∧ (∃ a, vk_R RX10 424 "no such question" a U) ∧ (∃ a, vk_R RX10 224 "they do not meet" a U) ∧ (∃ a, vk_R RX10 240 "they do not lie along one another" a U) ∧ (∃ a, vk_R RX10 369 "a first one is greater" a U)
/-- the words of the readers -/
def xsWd (X : xsX) (U : State) : Prop := (vk_R RX6 57 "seg" (xsSK X 0) U ∧ vk_R RX6 76 "tint" (xsSK X 1) U ∧ vk_R RX6 66 "cut" (xsSK X 2) U ∧ vk_R RX6 71 "move" (xsSK X 3) U ∧ vk_R RX6 106 "by" (xsSK X 4) U ∧ vk_R RX6 81 "turn" (xsSK X 5) U) ∧ (vk_R RX11 291 "seg" (xsSK X 0) U ∧ vk_R RX11 286 "tint" (xsSK X 1) U ∧ vk_R RX11 304 "cut" (xsSK X 2) U ∧ vk_R RX11 309 "move" (xsSK X 3) U ∧ vk_R RX11 311 "by" (xsSK X 4) U ∧ vk_R RX11 320 "turn" (xsSK X 5) U)
def xsSt (X : xsX) (U : State) (H : Heap) : Prop := vk_S 6 [3, 4, 3, 4, 2, 4] [[115, 101, 103], [116, 105, 110, 116], [99, 117, 116], [109, 111, 118, 101], [98, 121], [116, 117, 114, 110]] (xsSK X) (xsSV X) (xsF X) U H ∧ va_Z "java/lang/String" "COMPACT_STRINGS" "Z" (.int 1) (xsF X) U H ∧ va_Zq "jdk/internal/util/Preconditions" "SIOOBE_FORMATTER" "Ljava/util/function/BiFunction;" (xsF X) U H
def xsCa (U : State) : Prop := va_Nw (.castable "java/lang/IllegalArgumentException" "java/lang/IllegalArgumentException") U ∧ va_Nw (.castable "java/lang/IllegalStateException" "java/lang/IllegalStateException") U ∧ va_Nw (.castable "java/lang/IndexOutOfBoundsException" "java/lang/IndexOutOfBoundsException") U ∧ va_Nw (.castable "java/util/NoSuchElementException" "java/util/NoSuchElementException") U ∧ va_Nw (.declares (Bundle.initS "java/lang/RuntimeException")) U ∧ va_Nw (.declares (Bundle.initS "java/lang/Exception")) U ∧ va_Nw (.declares (Bundle.initS "java/lang/Throwable")) U
def xsNc (U : State) : Prop := va_Nc "java/lang/IllegalArgumentException" "java/lang/IllegalStateException" U ∧ va_Nc "java/lang/IllegalArgumentException" "java/lang/IndexOutOfBoundsException" U ∧ va_Nc "java/lang/IllegalArgumentException" "java/util/NoSuchElementException" U ∧ va_Nc "java/lang/IllegalStateException" "java/lang/IllegalArgumentException" U ∧ va_Nc "java/lang/IllegalStateException" "java/lang/IndexOutOfBoundsException" U ∧ va_Nc "java/lang/IllegalStateException" "java/util/NoSuchElementException" U ∧ va_Nc "java/lang/IndexOutOfBoundsException" "java/lang/IllegalArgumentException" U ∧ va_Nc "java/lang/IndexOutOfBoundsException" "java/lang/IllegalStateException" U ∧ va_Nc "java/lang/IndexOutOfBoundsException" "java/util/NoSuchElementException" U ∧ va_Nc "java/util/NoSuchElementException" "java/lang/IllegalArgumentException" U ∧ va_Nc "java/util/NoSuchElementException" "java/lang/IllegalStateException" U ∧ va_Nc "java/util/NoSuchElementException" "java/lang/IndexOutOfBoundsException" U
def xsTX (U : State) : Prop := xsTx U ∧ xsCa U ∧ xsNc U ∧ va_AO RX7 U
def xsE (X : xsX) (U : State) : Prop := va_K (xsD X) vwCl (xsTy X) U ∧ xsZ X ≤ U.heap.size ∧ xsNest U ∧ xsThr X U U.heap ∧ xsTX U ∧ xsWd X U ∧ xsSt X U U.heap
def xsC (p : Program) (s : State) (m : MethodId) (c : Code) (cc : ByteArray) (args : Array Value) (own : String) (nL : Nat) (X : xsX) : Prop := p.tables.exec = Jvm.exec ∧ c.code = cc ∧ c.maxLocals = nL ∧ s.vm.findClass own = some m.cls ∧ (∀ w ∈ xsGt, w.before args s = true) ∧ xsE X s
def xsP (X : xsX) (w : va_W) (av : List Value) : Array Value → State → Prop := va_Pc av (fun U => xsE X U ∧ va_P (xsD X) vwCl w U.heap ∧ va_D (xsF X) w)
def xsPost (X : xsX) (w : va_W) : Unit → State → Prop := fun _ t => va_P (xsD X) vwCl w t.heap ∧ va_D (xsF X) w
def xsQi (X : xsX) (r : Int32) (w : va_W) := va_Qi (fun (x : Int32) (_ : Unit) => x = r) (xsPost X w) (xsF X)
def xsQl (X : xsX) (r : Int64) (w : va_W) := va_Ql (fun (x : Int64) (_ : Unit) => x = r) (xsPost X w) (xsF X)
def xsQv (X : xsX) (w : va_W) := va_Qv (fun (_ : Unit) => True) (xsPost X w) (xsF X)
def xsQr (X : xsX) (r : Nat) (w : va_W) := va_Qr (fun (_ : Unit) => True) (fun u a t => a = r ∧ xsPost X w u t) (xsF X)
theorem va_Nw.warmM7 {s U : State} (hW : s.WarmedH U.vm) (h : xsNest s) : xsNest U := ⟨va_Nw.warmM hW h.1, va_Nw.warmM hW h.2.1, va_Nw.warmM hW h.2.2.1, va_Nw.warmM hW h.2.2.2.1, va_Nw.warmM hW h.2.2.2.2.1, va_Nw.warmM hW h.2.2.2.2.2.1, va_Nw.warmM hW h.2.2.2.2.2.2⟩
theorem xsNest_same {u U : State} (e : u.vm = U.vm) (h : xsNest u) : xsNest U := ⟨va_Nw.same rfl e h.1, va_Nw.same rfl e h.2.1, va_Nw.same rfl e h.2.2.1, va_Nw.same rfl e h.2.2.2.1, va_Nw.same rfl e h.2.2.2.2.1, va_Nw.same rfl e h.2.2.2.2.2.1, va_Nw.same rfl e h.2.2.2.2.2.2⟩
theorem xsTx_of {u U : State} (f : ∀ {o : String} {k : Nat} {t : String} {a : Nat}, vk_R o k t a u → vk_R o k t a U) (h : xsTx u) : xsTx U := by
  obtain ⟨⟨a0, h0⟩, ⟨a1, h1⟩, ⟨a2, h2⟩, ⟨a3, h3⟩, ⟨a4, h4⟩, ⟨a5, h5⟩, ⟨a6, h6⟩, ⟨a7, h7⟩, ⟨a8, h8⟩, ⟨a9, h9⟩, ⟨a10, h10⟩, ⟨a11, h11⟩, ⟨a12, h12⟩⟩ := h
  exact ⟨⟨a0, f h0⟩, ⟨a1, f h1⟩, ⟨a2, f h2⟩, ⟨a3, f h3⟩, ⟨a4, f h4⟩, ⟨a5, f h5⟩, ⟨a6, f h6⟩, ⟨a7, f h7⟩, ⟨a8, f h8⟩, ⟨a9, f h9⟩, ⟨a10, f h10⟩, ⟨a11, f h11⟩, ⟨a12, f h12⟩⟩
theorem xsWd_of {X : xsX} {u U : State} (f : ∀ {o : String} {k : Nat} {t : String} {a : Nat}, vk_R o k t a u → vk_R o k t a U) (h : xsWd X u) : xsWd X U := by
  obtain ⟨⟨h0, h1, h2, h3, h4, h5⟩, ⟨k0, k1, k2, k3, k4, k5⟩⟩ := h
  exact ⟨⟨f h0, f h1, f h2, f h3, f h4, f h5⟩, ⟨f k0, f k1, f k2, f k3, f k4, f k5⟩⟩
theorem xsTX_warm {s U : State} (hW : s.WarmedH U.vm) (h : xsTX s) : xsTX U := ⟨xsTx_of (fun q => vk_R.warm hW q) h.1, ⟨va_Nw.warmC hW h.2.1.1, va_Nw.warmC hW h.2.1.2.1, va_Nw.warmC hW h.2.1.2.2.1, va_Nw.warmC hW h.2.1.2.2.2.1, va_Nw.warmD hW h.2.1.2.2.2.2.1, va_Nw.warmD hW h.2.1.2.2.2.2.2.1, va_Nw.warmD hW h.2.1.2.2.2.2.2.2⟩, ⟨va_Nc.moved hW.alike h.2.2.1.1, va_Nc.moved hW.alike h.2.2.1.2.1, va_Nc.moved hW.alike h.2.2.1.2.2.1, va_Nc.moved hW.alike h.2.2.1.2.2.2.1, va_Nc.moved hW.alike h.2.2.1.2.2.2.2.1, va_Nc.moved hW.alike h.2.2.1.2.2.2.2.2.1, va_Nc.moved hW.alike h.2.2.1.2.2.2.2.2.2.1, va_Nc.moved hW.alike h.2.2.1.2.2.2.2.2.2.2.1, va_Nc.moved hW.alike h.2.2.1.2.2.2.2.2.2.2.2.1, va_Nc.moved hW.alike h.2.2.1.2.2.2.2.2.2.2.2.2.1, va_Nc.moved hW.alike h.2.2.1.2.2.2.2.2.2.2.2.2.2.1, va_Nc.moved hW.alike h.2.2.1.2.2.2.2.2.2.2.2.2.2.2⟩, va_AO.moved hW.alike h.2.2.2⟩
theorem xsTX_same {u U : State} (e : u.vm = U.vm) (al : u.vm.Alike U.vm) (h : xsTX u) : xsTX U := ⟨xsTx_of (fun q => vk_R.same e.symm q) h.1, ⟨va_Nw.same rfl e h.2.1.1, va_Nw.same rfl e h.2.1.2.1, va_Nw.same rfl e h.2.1.2.2.1, va_Nw.same rfl e h.2.1.2.2.2.1, va_Nw.same rfl e h.2.1.2.2.2.2.1, va_Nw.same rfl e h.2.1.2.2.2.2.2.1, va_Nw.same rfl e h.2.1.2.2.2.2.2.2⟩, ⟨va_Nc.moved al h.2.2.1.1, va_Nc.moved al h.2.2.1.2.1, va_Nc.moved al h.2.2.1.2.2.1, va_Nc.moved al h.2.2.1.2.2.2.1, va_Nc.moved al h.2.2.1.2.2.2.2.1, va_Nc.moved al h.2.2.1.2.2.2.2.2.1, va_Nc.moved al h.2.2.1.2.2.2.2.2.2.1, va_Nc.moved al h.2.2.1.2.2.2.2.2.2.2.1, va_Nc.moved al h.2.2.1.2.2.2.2.2.2.2.2.1, va_Nc.moved al h.2.2.1.2.2.2.2.2.2.2.2.2.1, va_Nc.moved al h.2.2.1.2.2.2.2.2.2.2.2.2.2.1, va_Nc.moved al h.2.2.1.2.2.2.2.2.2.2.2.2.2.2⟩, va_AO.moved al h.2.2.2⟩
theorem xsE_move {X : xsX} {s U : State} {H : Heap} {locs : List Loc} (h : xsE X s) (hS : va_S (xsF X) s.heap H locs) (hU : U.heap = H) (hW : s.WarmedH U.vm) : xsE X U := by
  obtain ⟨hK, hz, hn, ht, hx, hw, hs⟩ := h
  refine ⟨va_K.moved hW.alike hK, ?_, va_Nw.warmM7 hW hn, ?_, xsTX_warm hW hx, xsWd_of (fun q => vk_R.warm hW q) hw, ?_⟩
  · rw [hU]; exact Nat.le_trans hz hS.1
  · rw [hU]; exact ⟨(ht.1.moved hW.alike).kept (fun a h1 h2 => hS.2.1 a h1 h2), (ht.2.moved hW.alike).kept (fun a h1 h2 => hS.2.1 a h1 h2)⟩
  · rw [hU]; exact ⟨(hs.1.moved hW.alike).kept (fun a h1 h2 => hS.2.1 a h1 h2), (va_Z.moved hW.alike hs.2.1).kept (fun a h1 h2 => hS.2.1 a h1 h2), (va_Zq.moved hW.alike hs.2.2).kept (fun a h1 h2 => hS.2.1 a h1 h2)⟩
theorem xsE_calling {X : xsX} {U : State} {g : JFrame} {mk : MethodId} {a : Array Value} (h : xsE X U) : xsE X (U.calling g mk a) := by
  obtain ⟨hK, hz, hn, ht, hx, hw, hs⟩ := h
  have e : U.vm = (U.calling g mk a).vm := rfl
  have al : U.vm.Alike (U.calling g mk a).vm := Vm.Alike.refl U.vm
  exact ⟨va_K.moved al hK, hz, xsNest_same e hn, ⟨ht.1.moved al, ht.2.moved al⟩, xsTX_same e al hx, xsWd_of (fun q => vk_R.same e.symm q) hw, ⟨hs.1.moved al, va_Z.moved al hs.2.1, va_Zq.moved al hs.2.2⟩⟩
theorem xsP_blind {X : xsX} {w : va_W} {av : List Value} : FrameBlind (xsP X w av) := fun a U g mk q => by
  obtain ⟨q0, q1, qP, qD⟩ := q
  exact ⟨q0, xsE_calling q1, qP, qD⟩
