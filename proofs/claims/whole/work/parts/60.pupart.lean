/-! PURE: a point's numbers in lowest terms; its being an END -/
theorem pg_eqD {X D b : Int} {z : Rat} (hD : 0 < D) (h : (X : Rat) = z * (D : Rat)) : X = b * D ↔ z = (b : Rat) := by
  have d : 0 < (D : Rat) := Rat.intCast_pos.mpr hD
  rw [← Rat.intCast_inj, Rat.intCast_mul, h]
  refine ⟨fun q => ?_, fun q => by rw [q]⟩
  have : (z - (b : Rat)) * (D : Rat) = 0 := by grind
  have := (Rat.mul_eq_zero.mp this).resolve_right (by grind)
  grind
theorem puEnd_num {q : puS} {X Y D : Int} {p : puP} (hD : 0 < D) (r1 : (X : Rat) = p.1 * (D : Rat)) (r2 : (Y : Rat) = p.2 * (D : Rat)) : ((X = q.1 * D ∧ Y = q.2.1 * D) ↔ p = puA q) ∧ ((X = q.2.2.1 * D ∧ Y = q.2.2.2.1 * D) ↔ p = puZ q) := by
  rw [pg_eqD hD r1, pg_eqD hD r2, pg_eqD hD r1, pg_eqD hD r2]
  exact ⟨⟨fun h => Prod.ext h.1 h.2, fun h => by rw [h]; exact ⟨rfl, rfl⟩⟩, ⟨fun h => Prod.ext h.1 h.2, fun h => by rw [h]; exact ⟨rfl, rfl⟩⟩⟩
theorem puEnd_b {q : puS} (v : puV q) {D : Int} (hD : 0 < D ∧ D ≤ 7984008) : ((-8000000000 ≤ q.1 * D ∧ q.1 * D ≤ 8000000000) ∧ (-8000000000 ≤ q.2.1 * D ∧ q.2.1 * D ≤ 8000000000)) ∧ ((-8000000000 ≤ q.2.2.1 * D ∧ q.2.2.1 * D ≤ 8000000000) ∧ (-8000000000 ≤ q.2.2.2.1 * D ∧ q.2.2.2.1 * D ≤ 8000000000)) := by
  obtain ⟨⟨b1, b2, b3, b4⟩, -, -⟩ := v
  have k1 := pu_mb (v := q.1) (w := D) 999 7984008 (by omega) (by omega) (by omega) (by omega)
  have k2 := pu_mb (v := q.2.1) (w := D) 999 7984008 (by omega) (by omega) (by omega) (by omega)
  have k3 := pu_mb (v := q.2.2.1) (w := D) 999 7984008 (by omega) (by omega) (by omega) (by omega)
  have k4 := pu_mb (v := q.2.2.2.1) (w := D) 999 7984008 (by omega) (by omega) (by omega) (by omega)
  omega
theorem p_isAtEnd {lx ly rx ry : Nat → Int32} {s : Nat} {q : puS} (h : puQ lx ly rx ry s q) (v : puV q) (hs : s < 24) {x y d : Int64} {p : puP} (hr : puRep x y d p) : fX0_isAtEndOf x y d lx ly rx ry (puI (s : Int)) = some (puB (p = puA q ∨ p = puZ q)) := by
  obtain ⟨X, Y, D, rfl, rfl, rfl, hD, ⟨r1, r2⟩, bX, bY⟩ := hr
  obtain ⟨e1, e2⟩ := puEnd_num (q := q) hD.1 r1 r2
  obtain ⟨⟨k1, k2⟩, k3, k4⟩ := puEnd_b v hD
  obtain ⟨h1, h2, h3, h4⟩ := h
  obtain ⟨⟨b1, b2, b3, b4⟩, -, -⟩ := v
  have tail : fX0_isAtEndOf_J40 (puJ X) (puJ Y) (puJ D) rx ry (puI (s : Int)) = some (puB (p = puZ q)) := by
    unfold fX0_isAtEndOf_J40
    simp (disch := omega) only [xsCk_in, puI_clN, h3, h4, puI_l, puJ_mul, puJ_eq, xsBr_10, xsBr_B0]
    exact congrArg some (puB_iff e2)
  unfold fX0_isAtEndOf
  rw [tail]
  simp (disch := omega) only [xsCk_in, puI_clN, h1, h2, puI_l, puJ_mul, puJ_eq, xsBr_1B]
  by_cases c : X = q.1 * D
  · rw [xsBr_pos c]
    refine congrArg some (puB_iff (or_congr ?_ Iff.rfl))
    rw [← e1]; exact ⟨fun z => ⟨c, z⟩, fun z => z.2⟩
  · rw [xsBr_neg c]
    refine congrArg some (puB_iff ⟨Or.inr, fun z => z.elim (fun w => absurd (e1.mpr w).1 c) id⟩)
theorem p_isEndOf {n : Nat} {G : puG} {w : Nat → Int32} (hv : puVal n G) (hw : puMW n G w) {s : Nat} (hs : s < n) {x y d : Int64} {p : puP} (hr : puRep x y d p) : fX11_isEndOf w (puI (s : Int)) x y d = some (puB (p = puA (G s) ∨ p = puZ (G s))) := by
  have hn := hv.1
  have v := hv.2 s hs
  obtain ⟨X, Y, D, rfl, rfl, rfl, hD, ⟨r1, r2⟩, bX, bY⟩ := hr
  obtain ⟨e1, e2⟩ := puEnd_num (q := G s) hD.1 r1 r2
  obtain ⟨⟨k1, k2⟩, k3, k4⟩ := puEnd_b v hD
  obtain ⟨h1, h2, h3, h4, -⟩ := hw.2 s hs
  obtain ⟨⟨b1, b2, b3, b4⟩, -, -⟩ := v
  have tail : fX11_isEndOf_J31 w (puI (s : Int)) (puJ X) (puJ Y) (puJ D) = some (puB (p = puZ (G s))) := by
    unfold fX11_isEndOf_J31
    rw [p_of2 (by omega), p_of3 (by omega), h3, h4]
    simp (disch := omega) only [xsBd_sm, puI_l, puJ_mul, puJ_eq, xsBr_10, xsBr_B0]
    exact congrArg some (puB_iff e2)
  unfold fX11_isEndOf
  rw [tail, p_of0 (by omega), p_of1 (by omega), h1, h2]
  simp (disch := omega) only [xsBd_sm, puI_l, puJ_mul, puJ_eq, xsBr_1B]
  by_cases c : X = (G s).1 * D
  · rw [xsBr_pos c]
    refine congrArg some (puB_iff (or_congr ?_ Iff.rfl))
    rw [← e1]; exact ⟨fun z => ⟨c, z⟩, fun z => z.2⟩
  · rw [xsBr_neg c]
    refine congrArg some (puB_iff ⟨Or.inr, fun z => z.elim (fun w => absurd (e1.mpr w).1 c) id⟩)
/-- lowest terms -/
theorem pg_low {X D : Int} {z : Rat} (hD : 0 < D) (h : (X : Rat) = z * (D : Rat)) : X.tdiv ((Nat.gcd X.natAbs D.natAbs : Nat) : Int) = z.num ∧ D.tdiv ((Nat.gcd X.natAbs D.natAbs : Nat) : Int) = (z.den : Int) := by
  have d : 0 < (D : Rat) := Rat.intCast_pos.mpr hD
  have e : z = Rat.divInt X D := by
    rw [Rat.divInt_eq_div, h]
    exact (Rat.mul_div_cancel (by grind)).symm
  have g1 : ((Nat.gcd X.natAbs D.natAbs : Nat) : Int) ∣ X := Int.ofNat_dvd_left.mpr (Nat.gcd_dvd_left _ _)
  have g2 : ((Nat.gcd X.natAbs D.natAbs : Nat) : Int) ∣ D := Int.ofNat_dvd_left.mpr (Nat.gcd_dvd_right _ _)
  have eg : (D.gcd X) = Nat.gcd X.natAbs D.natAbs := by rw [Int.gcd_comm]; rfl
  constructor
  · rw [e, Rat.num_divInt, eg, Int.sign_eq_one_of_pos hD, Int.one_mul, Int.tdiv_eq_ediv_of_dvd g1]
  · rw [e, Rat.den_divInt, if_neg (by omega), eg, Int.tdiv_eq_ediv_of_dvd g2, Int.natCast_ediv]
    congr 1
    omega
noncomputable def puPn (p : puP) (k : Int) : Int := if k < 2 then (if k % 2 = 0 then p.1.num else (p.1.den : Int)) else (if k % 2 = 0 then p.2.num else (p.2.den : Int))
theorem p_divisor {a b : Int} (ha : -9000000000 ≤ a ∧ a ≤ 9000000000) (hb : 0 < b ∧ b ≤ 8000000) : fX10_divisorOfBoth (puJ a) (puJ b) = some (puJ (Nat.gcd a.natAbs b.natAbs : Int)) := by
  have ab : ∀ z : Int, -9000000000 ≤ z ∧ z ≤ 9000000000 → (if 0 < puJ z then puJ z else -puJ z) = puJ (z.natAbs : Int) := by
    intro z hz
    rw [show (0 : Int64) = puJ 0 by rfl]
    by_cases c : 0 < z
    · rw [if_pos ((puJ_lt (by omega) (by omega) (by omega) (by omega)).mpr c)]; congr 1; omega
    · rw [if_neg (fun q => c ((puJ_lt (by omega) (by omega) (by omega) (by omega)).mp q)), puJ_neg]; congr 1; omega
  unfold fX10_divisorOfBoth
  rw [ab a ha, ab b (by omega), xsLt_eq, xsLt_eq]
  obtain ⟨A, hA⟩ : ∃ A, A = a.natAbs := ⟨_, rfl⟩
  obtain ⟨B, hB⟩ : ∃ B, B = b.natAbs := ⟨_, rfl⟩
  rw [← hA, ← hB]
  have bA : A ≤ 9000000000 := by omega
  have bB : 0 < B ∧ B ≤ 8000000 := by omega
  have key : puOk (xsWh (fun s6 => fX10_divisorOfBoth_L15 s6.1 s6.2.1 s6.2.2) (puJ (A : Int), puJ (B : Int), (0 : Int32))) (fun r => r = puJ (Nat.gcd A B : Int)) := by
    refine puFor 60 (fun k z => ∃ u v : Nat, z = (puJ (u : Int), puJ (v : Int), puI (k : Int)) ∧ Nat.gcd u v = Nat.gcd A B ∧ (u ≤ 9000000000 ∧ v ≤ 9000000000) ∧ (k = 0 ∨ (1 ≤ k ∧ v < u ∧ u * v * 2 ^ (k - 1) < 2 ^ 60)) ∧ (k = 0 → v ≤ 8000000)) _ ?_ ?_ 0 _ (Nat.zero_le _) ⟨A, B, rfl, rfl, by omega, Or.inl rfl, fun _ => bB.2⟩
    · rintro k z hk ⟨u, v, rfl, h1, h2, h3, h4⟩
      simp only [fX10_divisorOfBoth_L15]
      rw [xsBr_neg (by rw [puI_lit, puI_le (by omega) (by omega) (by omega) (by omega)]; omega), show (0 : Int64) = puJ 0 by rfl]
      by_cases c : v = 0
      · right
        subst c
        exact ⟨_, xsBr_pos rfl, by rw [← h1, Nat.gcd_zero_right]⟩
      · left
        have md := Nat.mod_lt u (Nat.pos_of_ne_zero c)
        rw [xsBr_neg (puJ_ne0 c (by omega)), xsCk_pos (puJ_ne0 c (by omega)), xsLt_eq, xsLt_eq, puJ_rem (by omega) (by omega), puI_s1]
        refine ⟨_, rfl, v, u % v, rfl, ?_, by omega, Or.inr ⟨by omega, md, ?_⟩, fun q => by omega⟩
        · rw [Nat.gcd_comm, ← Nat.gcd_rec, Nat.gcd_comm]; exact h1
        · rcases h3 with h3 | ⟨k1, h3, h5⟩
          · subst h3
            have := h4 rfl
            have m1 : v * (u % v) ≤ 8000000 * 8000000 := Nat.mul_le_mul this (by omega)
            show v * (u % v) * 2 ^ 0 < _
            rw [Nat.pow_zero, Nat.mul_one]; omega
          · obtain ⟨j, rfl⟩ : ∃ j, k = j + 1 := ⟨k - 1, by omega⟩
            show v * (u % v) * 2 ^ (j + 1) < _
            have e1 : 2 * (u % v) ≤ u := by
              have := Nat.div_add_mod u v
              have p1 : 1 ≤ u / v := (Nat.le_div_iff_mul_le (Nat.pos_of_ne_zero c)).mpr (by omega)
              have p2 : v * 1 ≤ v * (u / v) := Nat.mul_le_mul_left _ p1
              omega
            have e2 : v * (u % v) * 2 ^ (j + 1) = v * (2 * (u % v)) * 2 ^ j := by
              rw [Nat.pow_succ']; simp only [Nat.mul_assoc, Nat.mul_left_comm]
            have e3 : v * (2 * (u % v)) * 2 ^ j ≤ v * u * 2 ^ j := Nat.mul_le_mul_right _ (Nat.mul_le_mul_left _ e1)
            have e4 : u * v * 2 ^ (j + 1 - 1) = v * u * 2 ^ j := by rw [Nat.mul_comm u v]; rfl
            omega
    · rintro z ⟨u, v, rfl, h1, h2, h3, h4⟩
      simp only [fX10_divisorOfBoth_L15]
      rw [xsBr_neg (by rw [puI_lit, puI_le (by omega) (by omega) (by omega) (by omega)]; omega), show (0 : Int64) = puJ 0 by rfl]
      have v0 : v = 0 := by
        rcases h3 with h3 | ⟨k1, h3, h5⟩
        · omega
        · rcases Nat.eq_zero_or_pos v with q | q
          · exact q
          · have m1 : 2 * 1 ≤ u * v := Nat.mul_le_mul (by omega) q
            have m2 : 2 * 2 ^ (60 - 1) ≤ u * v * 2 ^ (60 - 1) := Nat.mul_le_mul_right _ m1
            have m3 : 2 * 2 ^ (60 - 1) = 2 ^ 60 := by decide
            omega
      subst v0
      exact ⟨_, xsBr_pos rfl, by rw [← h1, Nat.gcd_zero_right]⟩
  obtain ⟨r, e, rfl⟩ := key
  rw [xsBd_some e]; rfl
theorem pu_mod2 {k : Int} (h : 0 ≤ k ∧ k ≤ 9) : puI k - puI k / (2 : Int32) * (2 : Int32) = puI (k % 2) := by
  rcases (show k = 0 ∨ k = 1 ∨ k = 2 ∨ k = 3 ∨ k = 4 ∨ k = 5 ∨ k = 6 ∨ k = 7 ∨ k = 8 ∨ k = 9 by omega) with rfl | rfl | rfl | rfl | rfl | rfl | rfl | rfl | rfl | rfl <;> decide +kernel
theorem p_part {x y d : Int64} {p : puP} (hr : puRep x y d p) {k : Int} (hk : 0 ≤ k ∧ k ≤ 9) : fX10_partOfPoint x y d (puI k) = some (puJ (puPn p k)) := by
  obtain ⟨X, Y, D, rfl, rfl, rfl, hD, ⟨r1, r2⟩, bX, bY⟩ := hr
  have key : ∀ (Z : Int) (z : Rat), -(999 * D) ≤ Z ∧ Z ≤ 999 * D → (Z : Rat) = z * (D : Rat) → fX10_partOfPoint_J11 (puJ D) (puI k) (puJ Z) = some (puJ (if k % 2 = 0 then z.num else (z.den : Int))) := by
    intro Z z bZ rz
    obtain ⟨l1, l2⟩ := pg_low hD.1 rz
    have gp : 0 < Nat.gcd Z.natAbs D.natAbs := Nat.gcd_pos_of_pos_right _ (by omega)
    have gl : Nat.gcd Z.natAbs D.natAbs ≤ D.natAbs := Nat.gcd_le_right _ (by omega)
    unfold fX10_partOfPoint_J11
    rw [p_divisor (by omega) (by omega), xsBd_sm, show (0 : Int64) = puJ 0 by rfl, xsBr_neg (puJ_ne0 (by omega) (by omega)), xsCk_pos (by decide), pu_mod2 hk]
    generalize Nat.gcd Z.natAbs D.natAbs = g at *
    by_cases c : k % 2 = 0
    · rw [xsBr_pos (by rw [c]; rfl), if_pos c, xsCk_pos (puJ_ne0 (by omega) (by omega)), puJ_tdiv (by omega) (by omega), l1]
    · rw [xsBr_neg (by rw [show (0 : Int32) = puI 0 by rfl, puI_eq (by omega) (by omega) (by omega) (by omega)]; exact c), if_neg c, xsCk_pos (puJ_ne0 (by omega) (by omega)), puJ_tdiv (by omega) (by omega), l2]
  unfold fX10_partOfPoint puPn
  rw [show (2 : Int32) = puI 2 by rfl]
  by_cases c : k < 2
  · rw [xsBr_neg (by rw [puI_le (by omega) (by omega) (by omega) (by omega)]; omega), xsBd_sm, if_pos c]
    exact key X p.1 bX r1
  · rw [xsBr_pos (by rw [puI_le (by omega) (by omega) (by omega) (by omega)]; omega), xsBd_sm, if_neg c]
    exact key Y p.2 bY r2
theorem p_mpart {x y d : Int64} {p : puP} (hr : puRep x y d p) {k : Int} (hk : 0 ≤ k ∧ k ≤ 9) : fX11_partOfPoint x y d (puI k) = some (puJ (puPn p k)) := by
  obtain ⟨X, Y, D, rfl, rfl, rfl, hD, ⟨r1, r2⟩, bX, bY⟩ := hr
  have key : ∀ (Z : Int) (z : Rat), -(999 * D) ≤ Z ∧ Z ≤ 999 * D → (Z : Rat) = z * (D : Rat) → fX11_partOfPoint_J11 (puJ D) (puI k) (puJ Z) = some (puJ (if k % 2 = 0 then z.num else (z.den : Int))) := by
    intro Z z bZ rz
    obtain ⟨l1, l2⟩ := pg_low hD.1 rz
    have gp : 0 < Nat.gcd Z.natAbs D.natAbs := Nat.gcd_pos_of_pos_right _ (by omega)
    have gl : Nat.gcd Z.natAbs D.natAbs ≤ D.natAbs := Nat.gcd_le_right _ (by omega)
    have eD : puJ D = puJ ((D.natAbs : Nat) : Int) := by congr 1; omega
    unfold fX11_partOfPoint_J11
    rw [xsCk_pos (by decide), pu_mod2 hk]
    have tl : ∀ b : Prop, fX11_partOfPoint_J26 (puJ D) (puJ Z) (puB b) = some (puJ (puE b (D.tdiv ((Nat.gcd Z.natAbs D.natAbs : Nat) : Int)) (Z.tdiv ((Nat.gcd Z.natAbs D.natAbs : Nat) : Int)))) := by
      intro b
      unfold fX11_partOfPoint_J26 fX11_lowest
      rw [pu_abs (by omega), xsBd_sm]
      simp only [fX11_lowest_J12]
      have ec : fX11_common (puJ ((Z.natAbs : Nat) : Int)) (puJ D) = some (puJ (Nat.gcd Z.natAbs D.natAbs : Int)) := by rw [eD]; exact p_common (by omega) (by omega)
      rw [ec, xsBd_sm]
      generalize Nat.gcd Z.natAbs D.natAbs = g at *
      by_cases c : b
      · rw [xsBr_neg (by rw [puB_pos c]; decide), xsBd_sm, puE_pos c]
        simp only [fX11_lowest_J28]
        rw [show (0 : Int64) = puJ 0 by rfl, xsCk_pos (puJ_ne0 (by omega) (by omega)), xsBd_sm, puJ_tdiv (by omega) (by omega)]
      · rw [xsBr_pos (by rw [puB_neg c]), xsBd_sm, puE_neg c]
        simp only [fX11_lowest_J28]
        rw [show (0 : Int64) = puJ 0 by rfl, xsCk_pos (puJ_ne0 (by omega) (by omega)), xsBd_sm, puJ_tdiv (by omega) (by omega)]
    rw [xsBr_10, xsBd_sm, tl, l1, l2]
    by_cases c : k % 2 = 0
    · rw [if_pos c, puE_neg (by rw [show (1 : Int32) = puI 1 by rfl, puI_eq (by omega) (by omega) (by omega) (by omega)]; omega)]
    · rw [if_neg c, puE_pos (by rw [show (1 : Int32) = puI 1 by rfl, puI_eq (by omega) (by omega) (by omega) (by omega)]; omega)]
  unfold fX11_partOfPoint puPn
  rw [show (2 : Int32) = puI 2 by rfl]
  by_cases c : k < 2
  · rw [xsBr_neg (by rw [puI_le (by omega) (by omega) (by omega) (by omega)]; omega), xsBd_sm, if_pos c]
    exact key X p.1 bX r1
  · rw [xsBr_pos (by rw [puI_le (by omega) (by omega) (by omega) (by omega)]; omega), xsBd_sm, if_neg c]
    exact key Y p.2 bY r2
