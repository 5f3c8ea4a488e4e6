/-! PURE: the reference's own texts, of one SEGMENT and of two -/
theorem puI_cl0 : (puI 0).toNatClampNeg = 0 := by decide +kernel
theorem puI_cl1 : (puI 1).toNatClampNeg = 1 := by decide +kernel
theorem puI_cl2 : (puI 2).toNatClampNeg = 2 := by decide +kernel
theorem puI_cl3 : (puI 3).toNatClampNeg = 3 := by decide +kernel
theorem puI_cl4 : (puI 4).toNatClampNeg = 4 := by decide +kernel
theorem puJ_div {a b : Nat} (ha : a < 9223372036854775808) (hb : b < 9223372036854775808) : puJ (a : Int) / puJ (b : Int) = puJ ((a / b : Nat) : Int) := by
  unfold puJ
  have := @Int64.ofInt_tdiv (a : Int) (b : Int) (by show (-9223372036854775808 : Int) ≤ _; omega) (by show _ ≤ (9223372036854775807 : Int); omega) (by show (-9223372036854775808 : Int) ≤ _; omega) (by show _ ≤ (9223372036854775807 : Int); omega)
  rw [← this]; rfl
theorem puJ_tdiv {a b : Int} (ha : -9223372036854775808 ≤ a ∧ a ≤ 9223372036854775807) (hb : -9223372036854775808 ≤ b ∧ b ≤ 9223372036854775807) : puJ a / puJ b = puJ (a.tdiv b) := by
  unfold puJ
  exact (@Int64.ofInt_tdiv a b ha.1 ha.2 hb.1 hb.2).symm
theorem puJ_rem {a b : Nat} (ha : a < 9223372036854775808) (hb : b < 9223372036854775808) : puJ (a : Int) - puJ (a : Int) / puJ (b : Int) * puJ (b : Int) = puJ ((a % b : Nat) : Int) := by
  rw [puJ_div ha hb, puJ_mul, puJ_sub]
  congr 1
  have := Nat.div_add_mod a b
  rw [Nat.mul_comm] at this
  have h2 : (a : Int) = ((a / b * b + a % b : Nat) : Int) := by rw [this]
  rw [Int.natCast_add, Int.natCast_mul] at h2
  omega
theorem puJ_ne0 {b : Nat} (h : b ≠ 0) (hb : b < 9223372036854775808) : ¬ puJ (b : Int) = puJ 0 := by
  rw [puJ_eq (by omega) (by omega) (by omega) (by omega)]; omega
theorem p_common {a b : Nat} (ha : a < 9223372036854775808) (hb : b < 9223372036854775808) : fX11_common (puJ (a : Int)) (puJ (b : Int)) = some (puJ (Nat.gcd a b : Int)) := by
  obtain ⟨r, e, q⟩ := xsWh_rule (step := fun s3 : Int64 × Int64 => fX11_common_L6 s3.1 s3.2) (fun s => ∃ u v : Nat, s = (puJ (u : Int), puJ (v : Int)) ∧ u < 9223372036854775808 ∧ v < 9223372036854775808 ∧ Nat.gcd u v = Nat.gcd a b) (fun s => s.2.toInt.toNat) (fun r => r = puJ (Nat.gcd a b : Int)) (by
    rintro s ⟨u, v, rfl, hu, hv, hg⟩
    simp only [fX11_common_L6]
    rw [show (0 : Int64) = puJ 0 by rfl]
    by_cases c : v = 0
    · subst c
      right
      refine ⟨_, xsBr_pos rfl, ?_⟩
      rw [← hg, Nat.gcd_zero_right]
    · left
      rw [xsBr_neg (puJ_ne0 c hv), xsCk_pos (puJ_ne0 c hv), xsLt_eq, puJ_rem hu hv]
      refine ⟨_, rfl, ⟨v, u % v, rfl, hv, ?_, ?_⟩, ?_⟩
      · have := Nat.mod_lt u (Nat.pos_of_ne_zero c); omega
      · rw [Nat.gcd_comm, ← Nat.gcd_rec, Nat.gcd_comm]; exact hg
      · simp only
        have := Nat.mod_lt u (Nat.pos_of_ne_zero c)
        rw [puJ_toInt (by omega) (by omega), puJ_toInt (by omega) (by omega)]
        omega) (puJ (a : Int), puJ (b : Int)) ⟨a, b, rfl, ha, hb, rfl⟩
  unfold fX11_common
  rw [xsBd_some e]
  simp only [fX11_common_J31]; rw [q]
theorem pu_abs {X : Int} (h : -9223372036854775807 ≤ X ∧ X ≤ 9223372036854775807) : xsBr ((0 : Int64) ≤ puJ X) (some (puJ X)) (some (-puJ X)) = some (puJ (X.natAbs : Int)) := by
  rw [show (0 : Int64) = puJ 0 by rfl]
  by_cases c : 0 ≤ X
  · rw [xsBr_pos ((puJ_le (by omega) (by omega) (by omega) (by omega)).mpr c), show (X.natAbs : Int) = X by omega]
  · rw [xsBr_neg (fun q => c ((puJ_le (by omega) (by omega) (by omega) (by omega)).mp q)), puJ_neg, show (X.natAbs : Int) = -X by omega]
theorem p_sharesPoint {a0 a1 a2 x0 y0 d0 : Int64} {p : puP} (h : puRep a0 a1 a2 p) : puOk (fX11_sharesPoint x0 y0 d0 a0 a1 a2) (fun o => o.1 = puI 1 ∧ puRep o.2.1 o.2.2.1 o.2.2.2 p) := by
  obtain ⟨X, Y, D, rfl, rfl, rfl, hD, ⟨r1, r2⟩, bX, bY⟩ := h
  unfold fX11_sharesPoint
  rw [pu_abs (by omega)]
  simp only [xsBd_sm, fX11_sharesPoint_J12]
  rw [pu_abs (by omega)]
  simp only [xsBd_sm, fX11_sharesPoint_J24]
  rw [p_common (by omega) (by omega)]
  simp only [xsBd_sm]
  have e : D = ((D.toNat : Nat) : Int) := by omega
  have l1 : Nat.gcd (Nat.gcd X.natAbs Y.natAbs) D.toNat ≤ D.toNat := Nat.gcd_le_right _ (by omega)
  have hg : 0 < Nat.gcd (Nat.gcd X.natAbs Y.natAbs) D.toNat := Nat.gcd_pos_of_pos_right _ (by omega)
  have gX0 : Nat.gcd X.natAbs Y.natAbs < 9223372036854775808 := by
    rcases Nat.eq_zero_or_pos X.natAbs with z | z
    · rw [z, Nat.gcd_zero_left]; omega
    · have := Nat.gcd_le_left Y.natAbs z; omega
  have ec : fX11_common (puJ ((Nat.gcd X.natAbs Y.natAbs : Nat) : Int)) (puJ D) = some (puJ (Nat.gcd (Nat.gcd X.natAbs Y.natAbs) D.toNat : Int)) := by
    have := p_common (a := Nat.gcd X.natAbs Y.natAbs) (b := D.toNat) gX0 (by omega)
    rw [← e] at this; exact this
  rw [ec]
  have dX : ((Nat.gcd (Nat.gcd X.natAbs Y.natAbs) D.toNat : Nat) : Int) ∣ X := by
    have := Nat.dvd_trans (Nat.gcd_dvd_left (Nat.gcd X.natAbs Y.natAbs) D.toNat) (Nat.gcd_dvd_left X.natAbs Y.natAbs)
    exact Int.ofNat_dvd_left.mpr this
  have dY : ((Nat.gcd (Nat.gcd X.natAbs Y.natAbs) D.toNat : Nat) : Int) ∣ Y := by
    have := Nat.dvd_trans (Nat.gcd_dvd_left (Nat.gcd X.natAbs Y.natAbs) D.toNat) (Nat.gcd_dvd_right X.natAbs Y.natAbs)
    exact Int.ofNat_dvd_left.mpr this
  have dD : ((Nat.gcd (Nat.gcd X.natAbs Y.natAbs) D.toNat : Nat) : Int) ∣ D := by
    have := Nat.gcd_dvd_right (Nat.gcd X.natAbs Y.natAbs) D.toNat
    rw [e]; exact Int.natCast_dvd_natCast.mpr this
  generalize Nat.gcd (Nat.gcd X.natAbs Y.natAbs) D.toNat = g at *
  simp only [xsBd_sm]
  rw [show (0 : Int64) = puJ 0 by rfl, xsCk_pos (puJ_ne0 (by omega) (by omega)), xsLt_eq, xsCk_pos (puJ_ne0 (by omega) (by omega)), xsLt_eq, xsCk_pos (puJ_ne0 (by omega) (by omega)), xsLt_eq]
  rw [puJ_tdiv (by omega) (by omega), puJ_tdiv (by omega) (by omega), puJ_tdiv (by omega) (by omega)]
  obtain ⟨X', rfl⟩ := dX
  obtain ⟨Y', rfl⟩ := dY
  obtain ⟨D', rfl⟩ := dD
  have gi : (g : Int) ≠ 0 := by omega
  rw [Int.mul_tdiv_cancel_left _ gi, Int.mul_tdiv_cancel_left _ gi, Int.mul_tdiv_cancel_left _ gi]
  refine puOk_some ⟨rfl, X', Y', D', rfl, rfl, rfl, ?_, ⟨?_, ?_⟩, ?_, ?_⟩
  · have h1 : 0 < D' := Int.pos_of_mul_pos_right (a := (g : Int)) hD.1 (by omega)
    have h2 : D' ≤ (g : Int) * D' := by
      have := Int.mul_le_mul_of_nonneg_right (a := 1) (b := (g : Int)) (c := D') (by omega) (by omega)
      rw [Int.one_mul] at this; exact this
    omega
  · have : ((g : Int) : Rat) ≠ 0 := fun q => gi (Rat.intCast_eq_zero_iff.mp q)
    rw [Rat.intCast_mul, Rat.intCast_mul] at r1
    have k : ((X' : Rat) - p.1 * (D' : Rat)) * ((g : Int) : Rat) = 0 := by grind
    have := (Rat.mul_eq_zero.mp k).resolve_right this
    grind
  · have : ((g : Int) : Rat) ≠ 0 := fun q => gi (Rat.intCast_eq_zero_iff.mp q)
    rw [Rat.intCast_mul, Rat.intCast_mul] at r2
    have k : ((Y' : Rat) - p.2 * (D' : Rat)) * ((g : Int) : Rat) = 0 := by grind
    have := (Rat.mul_eq_zero.mp k).resolve_right this
    grind
  · have gp : 0 < (g : Int) := by omega
    constructor
    · refine Int.le_of_mul_le_mul_left (a := (g : Int)) ?_ gp
      have : (g : Int) * -(999 * D') = -(999 * ((g : Int) * D')) := by grind
      omega
    · refine Int.le_of_mul_le_mul_left (a := (g : Int)) ?_ gp
      have : (g : Int) * (999 * D') = 999 * ((g : Int) * D') := by grind
      omega
  · have gp : 0 < (g : Int) := by omega
    constructor
    · refine Int.le_of_mul_le_mul_left (a := (g : Int)) ?_ gp
      have : (g : Int) * -(999 * D') = -(999 * ((g : Int) * D')) := by grind
      omega
    · refine Int.le_of_mul_le_mul_left (a := (g : Int)) ?_ gp
      have : (g : Int) * (999 * D') = 999 * ((g : Int) * D') := by grind
      omega
/-- the four numbers of a stretch in a row of four -/
def puM4 (f : Nat → Int32) (q : puS) : Prop := f 0 = puI q.1 ∧ f 1 = puI q.2.1 ∧ f 2 = puI q.2.2.1 ∧ f 3 = puI q.2.2.2.1
theorem p_in {a b c : Int} (ha : -9223372036854775808 ≤ a ∧ a ≤ 9223372036854775807) (hb : -9223372036854775808 ≤ b ∧ b ≤ 9223372036854775807) (hc : -9223372036854775808 ≤ c ∧ c ≤ 9223372036854775807) : fX11_in (puJ a) (puJ b) (puJ c) = some (puB (b ≤ a ∧ a ≤ c)) := by
  unfold fX11_in
  simp (disch := omega) only [xsLt_eq, xsBd_sm, xsCk_in, xsBr_10, xsBr_01, xsBr_B0, xsBr_0B, xsBr_1B, xsBr_B1, xsBr_10p, xsBr_01p, xsBr_B0p, xsBr_0Bp, xsBr_1Bp, xsBr_B1p, puB_0, puB_0p, puB_1p, xsBr_not, Classical.not_not, puI_lit, puI_lt, puI_le, puI_eq, puJ_lt, puJ_le, puJ_eq]
  refine congrArg some (puB_iff ?_)
  omega
theorem pu_ifmin {a b : Int} (h1 : -2147483648 ≤ a) (h2 : a ≤ 2147483647) (h3 : -2147483648 ≤ b) (h4 : b ≤ 2147483647) : (if puI b < puI a then puI b else puI a) = puI (min a b) := by
  by_cases c : b < a
  · rw [if_pos ((puI_lt h3 h4 h1 h2).mpr c), show min a b = b by omega]
  · rw [if_neg (fun q => c ((puI_lt h3 h4 h1 h2).mp q)), show min a b = a by omega]
theorem pu_ifmax {a b : Int} (h1 : -2147483648 ≤ a) (h2 : a ≤ 2147483647) (h3 : -2147483648 ≤ b) (h4 : b ≤ 2147483647) : (if puI a < puI b then puI b else puI a) = puI (max a b) := by
  by_cases c : a < b
  · rw [if_pos ((puI_lt h1 h2 h3 h4).mpr c), show max a b = b by omega]
  · rw [if_neg (fun q => c ((puI_lt h1 h2 h3 h4).mp q)), show max a b = a by omega]
/-- on a stretch, in the reference's numbers -/
theorem puOn_m {q : puS} (v : puV q) {X Y D : Int} {p : puP} (hD : 0 < D) (r1 : (X : Rat) = p.1 * (D : Rat)) (r2 : (Y : Rat) = p.2 * (D : Rat)) : puOn q p ↔ ((X - q.1 * D) * puH q = (Y - q.2.1 * D) * puW q ∧ (q.1 * D ≤ X ∧ X ≤ q.2.2.1 * D) ∧ (min q.2.1 q.2.2.2.1 * D ≤ Y ∧ Y ≤ max q.2.1 q.2.2.2.1 * D)) := by
  have d : 0 < (D : Rat) := Rat.intCast_pos.mpr hD
  have d0 : (D : Rat) ≠ 0 := by grind
  have c1 : (X - q.1 * D) * puH q = (Y - q.2.1 * D) * puW q ↔ puLn q p := by
    unfold puLn
    rw [← Rat.intCast_inj]
    simp only [Rat.intCast_mul, Rat.intCast_sub, r1, r2]
    constructor
    · intro h
      have : ((p.1 - (q.1 : Rat)) * (puH q : Rat) - (p.2 - (q.2.1 : Rat)) * (puW q : Rat)) * (D : Rat) = 0 := by grind
      have := (Rat.mul_eq_zero.mp this).resolve_right d0
      grind
    · intro h; grind
  have le : ∀ {Z b : Int} {z : Rat}, (Z : Rat) = z * (D : Rat) → ((b * D ≤ Z ↔ (b : Rat) ≤ z) ∧ (Z ≤ b * D ↔ z ≤ (b : Rat))) := by
    intro Z b z e
    constructor
    · rw [← Rat.intCast_le_intCast, Rat.intCast_mul, e]
      exact ⟨fun h => Rat.le_of_mul_le_mul_right h d, fun h => Rat.mul_le_mul_of_nonneg_right h (Rat.le_of_lt d)⟩
    · rw [← Rat.intCast_le_intCast, Rat.intCast_mul, e]
      exact ⟨fun h => Rat.le_of_mul_le_mul_right h d, fun h => Rat.mul_le_mul_of_nonneg_right h (Rat.le_of_lt d)⟩
  rw [c1, (le r1).1, (le r1).2, (le r2).1, (le r2).2]
  have hw := puWq q; have hh := puHq q
  have vd := puV_d v
  constructor
  · intro h
    obtain ⟨t, t0, t1, e1, e2⟩ := (puOn_t v).mp h
    have w0 : 0 ≤ (puW q : Rat) := by rcases vd with z | ⟨z, -⟩ <;> grind
    have m1 := Rat.mul_nonneg t0 w0
    have m2 := Rat.mul_nonneg (a := 1 - t) (b := (puW q : Rat)) (by grind) w0
    refine ⟨h.1, ⟨by grind, by grind⟩, ?_⟩
    rcases Int.le_total q.2.1 q.2.2.2.1 with z | z
    · rw [show min q.2.1 q.2.2.2.1 = q.2.1 by omega, show max q.2.1 q.2.2.2.1 = q.2.2.2.1 by omega]
      have z2 : (q.2.1 : Rat) ≤ (q.2.2.2.1 : Rat) := Rat.intCast_le_intCast.mpr z
      have m3 := Rat.mul_nonneg (a := t) (b := (puH q : Rat)) t0 (by grind)
      have m4 := Rat.mul_nonneg (a := 1 - t) (b := (puH q : Rat)) (by grind) (by grind)
      constructor <;> grind
    · rw [show min q.2.1 q.2.2.2.1 = q.2.2.2.1 by omega, show max q.2.1 q.2.2.2.1 = q.2.1 by omega]
      have z2 : (q.2.2.2.1 : Rat) ≤ (q.2.1 : Rat) := Rat.intCast_le_intCast.mpr z
      have m3 := Rat.mul_nonneg (a := t) (b := -(puH q : Rat)) t0 (by grind)
      have m4 := Rat.mul_nonneg (a := 1 - t) (b := -(puH q : Rat)) (by grind) (by grind)
      constructor <;> grind
  · rintro ⟨h1, ⟨h2, h3⟩, h4, h5⟩
    refine ⟨h1, ?_, ?_⟩
    · unfold puLe puA; simp only
      rcases Rat.le_iff_lt_or_eq.mp h2 with z | z
      · exact Or.inl z
      · right
        refine ⟨z, ?_⟩
        unfold puLn at h1
        rcases vd with w | ⟨w, w2⟩
        · have : (p.2 - (q.2.1 : Rat)) * (puW q : Rat) = 0 := by rw [← h1, z]; grind
          have := (Rat.mul_eq_zero.mp this).resolve_right (by grind)
          grind
        · have z3 : (q.2.1 : Rat) ≤ (q.2.2.2.1 : Rat) := by grind
          have z4 := Rat.intCast_le_intCast.mp z3
          rw [show min q.2.1 q.2.2.2.1 = q.2.1 by omega] at h4
          exact h4
    · unfold puLe puZ; simp only
      rcases Rat.le_iff_lt_or_eq.mp h3 with z | z
      · exact Or.inl z
      · right
        refine ⟨z, ?_⟩
        unfold puLn at h1
        rcases vd with w | ⟨w, w2⟩
        · have : (p.2 - (q.2.2.2.1 : Rat)) * (puW q : Rat) = 0 := by rw [z] at h1; grind
          have := (Rat.mul_eq_zero.mp this).resolve_right (by grind)
          grind
        · have z3 : (q.2.1 : Rat) ≤ (q.2.2.2.1 : Rat) := by grind
          have z4 := Rat.intCast_le_intCast.mp z3
          rw [show max q.2.1 q.2.2.2.1 = q.2.2.2.1 by omega] at h5
          exact h5
theorem p_isOn {f : Nat → Int32} {q : puS} (h : puM4 f q) (v : puV q) {a1 a2 a3 : Int64} {p : puP} (hr : puRep a1 a2 a3 p) : fX11_isOn f a1 a2 a3 = some (puB (puOn q p)) := by
  obtain ⟨X, Y, D, rfl, rfl, rfl, hD, ⟨r1, r2⟩, bX, bY⟩ := hr
  have on := puOn_m v hD.1 r1 r2
  have w := puV_w v; have w2 := puV_h v
  obtain ⟨h1, h2, h3, h4⟩ := h
  obtain ⟨⟨b1, b2, b3, b4⟩, -, -⟩ := v
  have k1 := pu_mb (v := q.1) (w := D) 999 7984008 (by omega) (by omega) (by omega) (by omega)
  have k2 := pu_mb (v := q.2.1) (w := D) 999 7984008 (by omega) (by omega) (by omega) (by omega)
  have k3 := pu_mb (v := q.2.2.1) (w := D) 999 7984008 (by omega) (by omega) (by omega) (by omega)
  have k5 := pu_mb (v := min q.2.1 q.2.2.2.1) (w := D) 999 7984008 (by omega) (by omega) (by omega) (by omega)
  have k6 := pu_mb (v := max q.2.1 q.2.2.2.1) (w := D) 999 7984008 (by omega) (by omega) (by omega) (by omega)
  have k7 := pu_mb (v := X - q.1 * D) (w := puH q) 20000000000 1998 (by omega) (by omega) (by omega) (by omega)
  have k8 := pu_mb (v := Y - q.2.1 * D) (w := puW q) 20000000000 1998 (by omega) (by omega) (by omega) (by omega)
  unfold puH at k7 w2; unfold puW at k8 w
  unfold fX11_isOn
  simp (disch := omega) only [xsLt_eq, xsCk_in, puI_lit, puJ_lit, puI_add, puI_sub, puI_mul, puI_neg, puJ_add, puJ_sub, puJ_mul, puJ_neg, puI_l, puI_clN, puI_cl0, puI_cl1, puI_cl2, puI_cl3, puI_cl4, h1, h2, h3, h4, pu_ifmin, pu_ifmax]
  rw [p_in (by omega) (by omega) (by omega), p_in (by omega) (by omega) (by omega)]
  simp (disch := omega) only [xsLt_eq, xsBd_sm, xsCk_in, xsBr_10, xsBr_01, xsBr_B0, xsBr_0B, xsBr_1B, xsBr_B1, xsBr_10p, xsBr_01p, xsBr_B0p, xsBr_0Bp, xsBr_1Bp, xsBr_B1p, puB_0, puB_0p, puB_1p, xsBr_not, Classical.not_not, puJ_eq]
  refine congrArg some (puB_iff ?_)
  rw [on]; unfold puH puW
  exact Iff.rfl
