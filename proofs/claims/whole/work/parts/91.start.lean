/-! THE START: what the Statement gives of it -/
theorem xs_evr {args : Array Value} {s : State} {t u : Term} {a d : Nat} (h : (Cond.eq t u).before args s = true) (ht : t.eval args s none [] s = some (.ref a)) (hu : u.eval args s none [] s = some (.ref d)) : u.eval args s none [] s = some (.ref a) := by
  simp [Cond.before, Cond.holds, Cond.value, ht, hu] at h
  rw [hu, h]
theorem xs_ex {args : Array Value} {s : State} {t : Term} (h : (Cond.exactly t "java/lang/String").before args s = true) : ∃ a, t.eval args s none [] s = some (.ref a) := by
  obtain ⟨a, c, cA, kA, q1, -⟩ := Cond.exactly_spec (args := args) (first := s) (o := none) (s := s) (idx := []) (t := t) (cls := "java/lang/String") h
  exact ⟨a, q1⟩
set_option maxRecDepth 100000 in
set_option maxHeartbeats 40000000 in
theorem xs_words {b : Nat} {s : State} (hgv : (Jvm.Cond.and given_1 narrow_1).before #[Value.ref b] s = true) : ∃ adK adV : Nat → Nat, vk_S 6 [3, 4, 3, 4, 2, 4] [[115, 101, 103], [116, 105, 110, 116], [99, 117, 116], [109, 111, 118, 101], [98, 121], [116, 117, 114, 110]] adK adV (fun q => s.heap.size ≤ q) s s.heap ∧ ∀ i : Nat, i < 6 → ((fun i => ([Term.string RX6 57, Term.string RX6 76, Term.string RX6 66, Term.string RX6 71, Term.string RX6 106, Term.string RX6 81] : List Term).getD i (Term.int 0)) i).eval #[Value.ref b] s none [] s = some (.ref (adK i)) := by
  have hq := flat_of_before _ hgv
  refine vk_Sof (N := 6) (tm := (fun i => ([Term.string RX6 57, Term.string RX6 76, Term.string RX6 66, Term.string RX6 71, Term.string RX6 106, Term.string RX6 81] : List Term).getD i (Term.int 0))) (len := [3, 4, 3, 4, 2, 4]) (byt := [[115, 101, 103], [116, 105, 110, 116], [99, 117, 116], [109, 111, 118, 101], [98, 121], [116, 117, 114, 110]]) (A := fun q => s.heap.size ≤ q) (fun i hi => ?_) (fun i hi => by rcases (show i = 0 ∨ i = 1 ∨ i = 2 ∨ i = 3 ∨ i = 4 ∨ i = 5 by omega) with rfl | rfl | rfl | rfl | rfl | rfl <;> exact hq _ (by decide +kernel)) (fun i hi => by rcases (show i = 0 ∨ i = 1 ∨ i = 2 ∨ i = 3 ∨ i = 4 ∨ i = 5 by omega) with rfl | rfl | rfl | rfl | rfl | rfl <;> exact hq _ (by decide +kernel)) (fun i hi => by rcases (show i = 0 ∨ i = 1 ∨ i = 2 ∨ i = 3 ∨ i = 4 ∨ i = 5 by omega) with rfl | rfl | rfl | rfl | rfl | rfl <;> exact hq _ (by decide +kernel)) (fun i hi => by rcases (show i = 0 ∨ i = 1 ∨ i = 2 ∨ i = 3 ∨ i = 4 ∨ i = 5 by omega) with rfl | rfl | rfl | rfl | rfl | rfl <;> exact hq _ (by decide +kernel)) (fun i hi j hj => ?_) (fun i j hi hj hij => ?_) (fun a ha => Nat.not_le.mpr ha)
  · rcases (show i = 0 ∨ i = 1 ∨ i = 2 ∨ i = 3 ∨ i = 4 ∨ i = 5 by omega) with rfl | rfl | rfl | rfl | rfl | rfl <;> decide
  · rcases (show i = 0 ∨ i = 1 ∨ i = 2 ∨ i = 3 ∨ i = 4 ∨ i = 5 by omega) with rfl | rfl | rfl | rfl | rfl | rfl
    · rcases (show j = 0 ∨ j = 1 ∨ j = 2 by have : j < 3 := hj; omega) with rfl | rfl | rfl <;> exact hq _ (by decide +kernel)
    · rcases (show j = 0 ∨ j = 1 ∨ j = 2 ∨ j = 3 by have : j < 4 := hj; omega) with rfl | rfl | rfl | rfl <;> exact hq _ (by decide +kernel)
    · rcases (show j = 0 ∨ j = 1 ∨ j = 2 by have : j < 3 := hj; omega) with rfl | rfl | rfl <;> exact hq _ (by decide +kernel)
    · rcases (show j = 0 ∨ j = 1 ∨ j = 2 ∨ j = 3 by have : j < 4 := hj; omega) with rfl | rfl | rfl | rfl <;> exact hq _ (by decide +kernel)
    · rcases (show j = 0 ∨ j = 1 by have : j < 2 := hj; omega) with rfl | rfl <;> exact hq _ (by decide +kernel)
    · rcases (show j = 0 ∨ j = 1 ∨ j = 2 ∨ j = 3 by have : j < 4 := hj; omega) with rfl | rfl | rfl | rfl <;> exact hq _ (by decide +kernel)
  · rcases (show i = 0 ∨ i = 1 ∨ i = 2 ∨ i = 3 ∨ i = 4 ∨ i = 5 by omega) with rfl | rfl | rfl | rfl | rfl | rfl <;> rcases (show j = 0 ∨ j = 1 ∨ j = 2 ∨ j = 3 ∨ j = 4 ∨ j = 5 by omega) with rfl | rfl | rfl | rfl | rfl | rfl <;> first | exact absurd rfl hij | exact Or.inl (hq _ (by decide +kernel)) | exact Or.inr (hq _ (by decide +kernel))
set_option maxRecDepth 100000 in
set_option maxHeartbeats 40000000 in
theorem xs_env {p : Program} {s : State} {m : MethodId} {meth : Method} {c : Code} {b L : Nat} {xs : Nat → Int32} (C0 : lw_At p s m meth c b L xs) : ∃ (Dd : va_G) (cB cI cJ cS : ClassId) (SK SV : Nat → Nat), ∀ A : Nat → Nat, xsE ((Dd, cB, cI, cJ, cS), (A, s.heap.size, SK, SV)) s := by
  obtain ⟨hx, hb, hr, hml, hown, hts, hX, hbl, hlk, hgv⟩ := C0
  have hq := flat_of_before _ hgv
  have hg : ∀ w ∈ xsGt, w.before #[Value.ref b] s = true := fun w h => hts w (List.mem_filter.mp h).1
  have hA : ∀ a : Nat, a < s.heap.size → ¬ (fun q => s.heap.size ≤ q) a := fun a ha => Nat.not_le.mpr ha
  have hcls : ∀ k : Nat, ∃ d : ClassId × (Nat → Nat), ∀ q, vwCl[k]? = some q → u_Kn s q.1 q.2.1 q.2.2 d.1 d.2 := by
    intro k
    match k with
    | 0 =>
      obtain ⟨c0, i0, h⟩ := u_known (C := RX0) (T := TX0) (N := 8) (n := 8) hg in_X0 (hg _ w_256)
      exact ⟨(c0, i0), fun q hq => by cases hq; exact h⟩
    | 1 =>
      obtain ⟨c0, i0, h⟩ := u_known (C := RX1) (T := TX1) (N := 11) (n := 11) hg in_X1 (hg _ w_324)
      exact ⟨(c0, i0), fun q hq => by cases hq; exact h⟩
    | 2 =>
      obtain ⟨c0, i0, h⟩ := u_known (C := RX2) (T := TX2) (N := 5) (n := 5) hg in_X2 (hg _ w_383)
      exact ⟨(c0, i0), fun q hq => by cases hq; exact h⟩
    | 3 =>
      obtain ⟨c0, i0, h⟩ := u_known (C := RX3) (T := TX3) (N := 3) (n := 3) hg in_X3 (hg _ w_196)
      exact ⟨(c0, i0), fun q hq => by cases hq; exact h⟩
    | 4 =>
      obtain ⟨c0, i0, h⟩ := u_known (C := RX4) (T := TX4) (N := 5) (n := 5) hg in_X4 (hg _ w_428)
      exact ⟨(c0, i0), fun q hq => by cases hq; exact h⟩
    | 5 =>
      obtain ⟨c0, i0, h⟩ := u_known (C := RX5) (T := TX5) (N := 5) (n := 5) hg in_X5 (hg _ w_250)
      exact ⟨(c0, i0), fun q hq => by cases hq; exact h⟩
    | 6 =>
      obtain ⟨c0, i0, h⟩ := u_known (C := RX6) (T := TX6) (N := 7) (n := 7) hg in_X6 (hg _ w_216)
      exact ⟨(c0, i0), fun q hq => by cases hq; exact h⟩
    | 7 =>
      obtain ⟨c0, i0, h⟩ := u_known (C := RX7) (T := TX7) (N := 6) (n := 6) hg in_X7 (hg _ w_140)
      exact ⟨(c0, i0), fun q hq => by cases hq; exact h⟩
    | 8 =>
      obtain ⟨c0, i0, h⟩ := u_known (C := RX9) (T := TX9) (N := 5) (n := 5) hg in_X9 (hg _ w_299)
      exact ⟨(c0, i0), fun q hq => by cases hq; exact h⟩
    | 9 =>
      obtain ⟨c0, i0, h⟩ := u_known (C := RX10) (T := TX10) (N := 9) (n := 9) hg in_X10 (hg _ w_132)
      exact ⟨(c0, i0), fun q hq => by cases hq; exact h⟩
    | 10 =>
      obtain ⟨c0, i0, h⟩ := u_known (C := RX11) (T := TX11) (N := 48) (n := 48) hg in_X11 (hg _ w_1348)
      exact ⟨(c0, i0), fun q hq => by cases hq; exact h⟩
    | n + 11 => exact ⟨(0, fun _ => 0), fun q hq => by simp [vwCl] at hq⟩
  obtain ⟨f, hf⟩ := Classical.axiomOfChoice hcls
  obtain ⟨cB, kB, pB, hB1, hB2, hB3⟩ := Cond.arrayClass_spec (hts (.arrayClass .byte) (by decide +kernel))
  obtain ⟨cI, kI, pI, hI1, hI2, hI3⟩ := Cond.arrayClass_spec (hts (.arrayClass .int) (by decide +kernel))
  obtain ⟨cJ, kJ, pJ, hJ1, hJ2, hJ3⟩ := Cond.arrayClass_spec (hts (.arrayClass .long) (by decide +kernel))
  obtain ⟨pS, cS, kS, hS1, hS2, hS3, hS4, hS5⟩ := Cond.arrayOver_spec (hts (.arrayOver (.object RX7)) (by decide +kernel))
  obtain ⟨SK, SV, hSt, hev⟩ := xs_words hgv
  obtain ⟨t82, ht82⟩ := xs_ex (hq (.exactly (.string RX10 82) "java/lang/String") (by decide +kernel))
  obtain ⟨t432, ht432⟩ := xs_ex (hq (.exactly (.string RX10 432) "java/lang/String") (by decide +kernel))
  obtain ⟨t434, ht434⟩ := xs_ex (hq (.exactly (.string RX10 434) "java/lang/String") (by decide +kernel))
  obtain ⟨t109, ht109⟩ := xs_ex (hq (.exactly (.string RX10 109) "java/lang/String") (by decide +kernel))
  obtain ⟨t421, ht421⟩ := xs_ex (hq (.exactly (.string RX10 421) "java/lang/String") (by decide +kernel))
  obtain ⟨t145, ht145⟩ := xs_ex (hq (.exactly (.string RX10 145) "java/lang/String") (by decide +kernel))
  obtain ⟨t160, ht160⟩ := xs_ex (hq (.exactly (.string RX10 160) "java/lang/String") (by decide +kernel))
  obtain ⟨t199, ht199⟩ := xs_ex (hq (.exactly (.string RX10 199) "java/lang/String") (by decide +kernel))
  obtain ⟨t426, ht426⟩ := xs_ex (hq (.exactly (.string RX10 426) "java/lang/String") (by decide +kernel))
  obtain ⟨t424, ht424⟩ := xs_ex (hq (.exactly (.string RX10 424) "java/lang/String") (by decide +kernel))
  obtain ⟨t224, ht224⟩ := xs_ex (hq (.exactly (.string RX10 224) "java/lang/String") (by decide +kernel))
  obtain ⟨t240, ht240⟩ := xs_ex (hq (.exactly (.string RX10 240) "java/lang/String") (by decide +kernel))
  obtain ⟨t369, ht369⟩ := xs_ex (hq (.exactly (.string RX10 369) "java/lang/String") (by decide +kernel))
  obtain ⟨d291, hd291⟩ := xs_ex (hq (.exactly (.string RX11 291) "java/lang/String") (by decide +kernel))
  obtain ⟨d286, hd286⟩ := xs_ex (hq (.exactly (.string RX11 286) "java/lang/String") (by decide +kernel))
  obtain ⟨d304, hd304⟩ := xs_ex (hq (.exactly (.string RX11 304) "java/lang/String") (by decide +kernel))
  obtain ⟨d309, hd309⟩ := xs_ex (hq (.exactly (.string RX11 309) "java/lang/String") (by decide +kernel))
  obtain ⟨d311, hd311⟩ := xs_ex (hq (.exactly (.string RX11 311) "java/lang/String") (by decide +kernel))
  obtain ⟨d320, hd320⟩ := xs_ex (hq (.exactly (.string RX11 320) "java/lang/String") (by decide +kernel))
  refine ⟨(fun k => (f k).1, fun k => (f k).2), cB, cI, cJ, cS, SK, SV, fun A => ⟨⟨fun k q hq => hf k q hq, fun k q hq => ?_⟩, Nat.le_refl _, ?_, ?_, ?_, ?_, ?_⟩⟩
  · match k, hq with
    | 0, hq => cases hq; exact ⟨fun n z => ⟨fun k h => (by cases h), kB, hB2, pB, hB3⟩, hB1⟩
    | 1, hq => cases hq; exact ⟨fun n z => ⟨fun k h => (by cases h), kI, hI2, pI, hI3⟩, hI1⟩
    | 2, hq => cases hq; exact ⟨fun n z => ⟨fun k h => (by cases h), kJ, hJ2, pJ, hJ3⟩, hJ1⟩
    | 3, hq => cases hq; exact ⟨fun n z => ⟨fun k h => (by cases h), kS, hS3, pS, hS4⟩, kS, pS, hS3, hS4, hS1, hS5⟩
    | n + 4, hq => simp [xsTy] at hq
  · exact ⟨va_Nw.of rfl (hts (.methodLinkNest RX9 30 yX10_has RX10) (by decide +kernel)), va_Nw.of rfl (hts (.methodLinkNest RX2 46 yX10_has RX10) (by decide +kernel)), va_Nw.of rfl (hts (.methodLinkNest RX8 21 yX10_has RX10) (by decide +kernel)), va_Nw.of rfl (hts (.methodLinkNest RX5 130 yX10_has RX10) (by decide +kernel)), va_Nw.of rfl (hts (.methodLinkNest RX7 43 yX10_isCoordinate RX10) (by decide +kernel)), va_Nw.of rfl (hts (.methodLinkNest RX1 106 yX10_has RX10) (by decide +kernel)), va_Nw.of rfl (hts (.methodLinkNest RX7 74 yX10_has RX10) (by decide +kernel))⟩
  · exact ⟨vx_Zqof (hts (.laysStatic "java/lang/Throwable" "UNASSIGNED_STACK" "[Ljava/lang/StackTraceElement;") (by decide +kernel)) (hts (.initialized "java/lang/Throwable") (by decide +kernel)) (hq (.isRef (.static "java/lang/Throwable" "UNASSIGNED_STACK" "[Ljava/lang/StackTraceElement;")) (by decide +kernel)) hA, vx_Zqof (hts (.laysStatic "java/lang/Throwable" "SUPPRESSED_SENTINEL" "Ljava/util/List;") (by decide +kernel)) (hts (.initialized "java/lang/Throwable") (by decide +kernel)) (hq (.isRef (.static "java/lang/Throwable" "SUPPRESSED_SENTINEL" "Ljava/util/List;")) (by decide +kernel)) hA⟩
  · exact ⟨⟨⟨t82, vk_R.of (hts (.stringRef RX10 82 "the text is wrong") (by decide +kernel)) ht82⟩, ⟨t432, vk_R.of (hts (.stringRef RX10 432 "there is no such point") (by decide +kernel)) ht432⟩, ⟨t434, vk_R.of (hts (.stringRef RX10 434 "there is no such tint") (by decide +kernel)) ht434⟩, ⟨t109, vk_R.of (hts (.stringRef RX10 109 "there are 24 segments") (by decide +kernel)) ht109⟩, ⟨t421, vk_R.of (hts (.stringRef RX10 421 "there is no such one") (by decide +kernel)) ht421⟩, ⟨t145, vk_R.of (hts (.stringRef RX10 145 "an end would be beyond 999") (by decide +kernel)) ht145⟩, ⟨t160, vk_R.of (hts (.stringRef RX10 160 "nothing is remembered") (by decide +kernel)) ht160⟩, ⟨t199, vk_R.of (hts (.stringRef RX10 199 "no such question of a segment") (by decide +kernel)) ht199⟩, ⟨t426, vk_R.of (hts (.stringRef RX10 426 "both are one") (by decide +kernel)) ht426⟩, ⟨t424, vk_R.of (hts (.stringRef RX10 424 "no such question") (by decide +kernel)) ht424⟩, ⟨t224, vk_R.of (hts (.stringRef RX10 224 "they do not meet") (by decide +kernel)) ht224⟩, ⟨t240, vk_R.of (hts (.stringRef RX10 240 "they do not lie along one another") (by decide +kernel)) ht240⟩, ⟨t369, vk_R.of (hts (.stringRef RX10 369 "a first one is greater") (by decide +kernel)) ht369⟩⟩, ⟨va_Nw.of rfl (hts (.castable "java/lang/IllegalArgumentException" "java/lang/IllegalArgumentException") (by decide +kernel)), va_Nw.of rfl (hts (.castable "java/lang/IllegalStateException" "java/lang/IllegalStateException") (by decide +kernel)), va_Nw.of rfl (hts (.castable "java/lang/IndexOutOfBoundsException" "java/lang/IndexOutOfBoundsException") (by decide +kernel)), va_Nw.of rfl (hts (.castable "java/util/NoSuchElementException" "java/util/NoSuchElementException") (by decide +kernel)), va_Nw.of rfl (hts (.declares (Bundle.initS "java/lang/RuntimeException")) (by decide +kernel)), va_Nw.of rfl (hts (.declares (Bundle.initS "java/lang/Exception")) (by decide +kernel)), va_Nw.of rfl (hts (.declares (Bundle.initS "java/lang/Throwable")) (by decide +kernel))⟩, ⟨va_Nc.of (hq (.not (.castable "java/lang/IllegalArgumentException" "java/lang/IllegalStateException")) (by decide +kernel)), va_Nc.of (hq (.not (.castable "java/lang/IllegalArgumentException" "java/lang/IndexOutOfBoundsException")) (by decide +kernel)), va_Nc.of (hq (.not (.castable "java/lang/IllegalArgumentException" "java/util/NoSuchElementException")) (by decide +kernel)), va_Nc.of (hq (.not (.castable "java/lang/IllegalStateException" "java/lang/IllegalArgumentException")) (by decide +kernel)), va_Nc.of (hq (.not (.castable "java/lang/IllegalStateException" "java/lang/IndexOutOfBoundsException")) (by decide +kernel)), va_Nc.of (hq (.not (.castable "java/lang/IllegalStateException" "java/util/NoSuchElementException")) (by decide +kernel)), va_Nc.of (hq (.not (.castable "java/lang/IndexOutOfBoundsException" "java/lang/IllegalArgumentException")) (by decide +kernel)), va_Nc.of (hq (.not (.castable "java/lang/IndexOutOfBoundsException" "java/lang/IllegalStateException")) (by decide +kernel)), va_Nc.of (hq (.not (.castable "java/lang/IndexOutOfBoundsException" "java/util/NoSuchElementException")) (by decide +kernel)), va_Nc.of (hq (.not (.castable "java/util/NoSuchElementException" "java/lang/IllegalArgumentException")) (by decide +kernel)), va_Nc.of (hq (.not (.castable "java/util/NoSuchElementException" "java/lang/IllegalStateException")) (by decide +kernel)), va_Nc.of (hq (.not (.castable "java/util/NoSuchElementException" "java/lang/IndexOutOfBoundsException")) (by decide +kernel))⟩, va_AO.of (hts (.arrayOver (.object RX7)) (by decide +kernel))⟩
  · exact ⟨⟨vk_R.of (hts (.stringRef RX6 57 "seg") (by decide +kernel)) (hev 0 (by decide)), vk_R.of (hts (.stringRef RX6 76 "tint") (by decide +kernel)) (hev 1 (by decide)), vk_R.of (hts (.stringRef RX6 66 "cut") (by decide +kernel)) (hev 2 (by decide)), vk_R.of (hts (.stringRef RX6 71 "move") (by decide +kernel)) (hev 3 (by decide)), vk_R.of (hts (.stringRef RX6 106 "by") (by decide +kernel)) (hev 4 (by decide)), vk_R.of (hts (.stringRef RX6 81 "turn") (by decide +kernel)) (hev 5 (by decide))⟩, ⟨vk_R.of (hts (.stringRef RX11 291 "seg") (by decide +kernel)) (xs_evr (hq (.eq (.string RX6 57) (.string RX11 291)) (by decide +kernel)) (hev 0 (by decide)) hd291), vk_R.of (hts (.stringRef RX11 286 "tint") (by decide +kernel)) (xs_evr (hq (.eq (.string RX6 76) (.string RX11 286)) (by decide +kernel)) (hev 1 (by decide)) hd286), vk_R.of (hts (.stringRef RX11 304 "cut") (by decide +kernel)) (xs_evr (hq (.eq (.string RX6 66) (.string RX11 304)) (by decide +kernel)) (hev 2 (by decide)) hd304), vk_R.of (hts (.stringRef RX11 309 "move") (by decide +kernel)) (xs_evr (hq (.eq (.string RX6 71) (.string RX11 309)) (by decide +kernel)) (hev 3 (by decide)) hd309), vk_R.of (hts (.stringRef RX11 311 "by") (by decide +kernel)) (xs_evr (hq (.eq (.string RX6 106) (.string RX11 311)) (by decide +kernel)) (hev 4 (by decide)) hd311), vk_R.of (hts (.stringRef RX11 320 "turn") (by decide +kernel)) (xs_evr (hq (.eq (.string RX6 81) (.string RX11 320)) (by decide +kernel)) (hev 5 (by decide)) hd320)⟩⟩
  · exact ⟨hSt, va_Zof (hts (.laysStatic "java/lang/String" "COMPACT_STRINGS" "Z") (by decide +kernel)) (hts (.initialized "java/lang/String") (by decide +kernel)) (va_eqi (hq (.eq (.static "java/lang/String" "COMPACT_STRINGS" "Z") (.int 1)) (by decide +kernel))) hA, va_Zqof (hts (.laysStatic "jdk/internal/util/Preconditions" "SIOOBE_FORMATTER" "Ljava/util/function/BiFunction;") (by decide +kernel)) (hts (.initialized "jdk/internal/util/Preconditions") (by decide +kernel)) (hq (.isRef (.static "jdk/internal/util/Preconditions" "SIOOBE_FORMATTER" "Ljava/util/function/BiFunction;")) (by decide +kernel)) hA⟩
