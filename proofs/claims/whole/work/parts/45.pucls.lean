/-! PURE: the class's own texts, of one SEGMENT and of two -/
def puQ (lx ly rx ry : Nat → Int32) (s : Nat) (q : puS) : Prop := lx s = puI q.1 ∧ ly s = puI q.2.1 ∧ rx s = puI q.2.2.1 ∧ ry s = puI q.2.2.2.1
theorem puV_w {q : puS} (v : puV q) : 0 ≤ puW q ∧ puW q ≤ 1998 := by
  obtain ⟨⟨b1, b2, b3, b4⟩, -, b5⟩ := v
  unfold puW at *; omega
theorem puV_h {q : puS} (v : puV q) : -1998 ≤ puH q ∧ puH q ≤ 1998 := by
  obtain ⟨⟨b1, b2, b3, b4⟩, -, b5⟩ := v
  unfold puH at *; omega
theorem p_width {lx ly rx ry : Nat → Int32} {s : Nat} {q : puS} (h : puQ lx ly rx ry s q) (v : puV q) (hs : s < 24) : fX7_width lx rx (puI (s : Int)) = some (puJ (puW q)) := by
  obtain ⟨h1, h2, h3, h4⟩ := h
  obtain ⟨⟨b1, b2, b3, b4⟩, -, -⟩ := v
  unfold fX7_width puW
  simp (disch := omega) only [xsLt_eq, xsBd_sm, xsCk_in, xsBr_10, xsBr_01, xsBr_B0, xsBr_0B, xsBr_1B, xsBr_B1, xsBr_10p, xsBr_01p, xsBr_B0p, xsBr_0Bp, xsBr_1Bp, xsBr_B1p, puB_0, puB_0p, puB_1p, xsBr_not, Classical.not_not, puI_lit, puJ_lit, puI_add, puI_sub, puI_mul, puI_neg, puJ_add, puJ_sub, puJ_mul, puJ_neg, puI_l, puI_clN, puI_clL, puI_lt, puI_le, puI_eq, puJ_lt, puJ_le, puJ_eq, h1, h2, h3, h4]
theorem p_rise {lx ly rx ry : Nat → Int32} {s : Nat} {q : puS} (h : puQ lx ly rx ry s q) (v : puV q) (hs : s < 24) : fX7_rise ly ry (puI (s : Int)) = some (puJ (puH q)) := by
  obtain ⟨h1, h2, h3, h4⟩ := h
  obtain ⟨⟨b1, b2, b3, b4⟩, -, -⟩ := v
  unfold fX7_rise puH
  simp (disch := omega) only [xsLt_eq, xsBd_sm, xsCk_in, xsBr_10, xsBr_01, xsBr_B0, xsBr_0B, xsBr_1B, xsBr_B1, xsBr_10p, xsBr_01p, xsBr_B0p, xsBr_0Bp, xsBr_1Bp, xsBr_B1p, puB_0, puB_0p, puB_1p, xsBr_not, Classical.not_not, puI_lit, puJ_lit, puI_add, puI_sub, puI_mul, puI_neg, puJ_add, puJ_sub, puJ_mul, puJ_neg, puI_l, puI_clN, puI_clL, puI_lt, puI_le, puI_eq, puJ_lt, puJ_le, puJ_eq, h1, h2, h3, h4]
noncomputable def puKn (q : puS) : Int := puE (puW q = 0) (puE (puH q = 0) 0 1) (puE (puH q = 0) 2 3)
theorem p_kind {lx ly rx ry : Nat → Int32} {s : Nat} {q : puS} (h : puQ lx ly rx ry s q) (v : puV q) (hs : s < 24) : fX7_kind lx ly rx ry (puI (s : Int)) = some (puI (puKn q)) := by
  have w := puV_w v; have w2 := puV_h v
  unfold fX7_kind puKn
  rw [p_width h v hs, p_rise h v hs]
  simp (disch := omega) only [xsBd_sm, puJ_lit, puI_lit, puJ_eq, xsBr_some, puE_fn puI]
theorem p_isSame {lx ly rx ry : Nat → Int32} {s s2 : Nat} {q q2 : puS} (h : puQ lx ly rx ry s q) (h' : puQ lx ly rx ry s2 q2) (v : puV q) (v2 : puV q2) (hs : s < 24) (hs2 : s2 < 24) : fX7_isSame lx ly rx ry (puI (s : Int)) (puI (s2 : Int)) = some (puB (q.1 = q2.1 ∧ q.2.1 = q2.2.1 ∧ q.2.2.1 = q2.2.2.1 ∧ q.2.2.2.1 = q2.2.2.2.1)) := by
  obtain ⟨h1, h2, h3, h4⟩ := h
  obtain ⟨g1, g2, g3, g4⟩ := h'
  obtain ⟨⟨b1, b2, b3, b4⟩, -, -⟩ := v
  obtain ⟨⟨c1, c2, c3, c4⟩, -, -⟩ := v2
  unfold fX7_isSame
  simp (disch := omega) only [xsLt_eq, xsBd_sm, xsCk_in, xsBr_10, xsBr_01, xsBr_B0, xsBr_0B, xsBr_1B, xsBr_B1, xsBr_10p, xsBr_01p, xsBr_B0p, xsBr_0Bp, xsBr_1Bp, xsBr_B1p, puB_0, puB_0p, puB_1p, xsBr_not, Classical.not_not, puI_lit, puJ_lit, puI_add, puI_sub, puI_mul, puI_neg, puJ_add, puJ_sub, puJ_mul, puJ_neg, puI_l, puI_clN, puI_clL, puI_lt, puI_le, puI_eq, puJ_lt, puJ_le, puJ_eq, h1, h2, h3, h4, g1, g2, g3, g4]
theorem p_spansX {lx ly rx ry : Nat → Int32} {s : Nat} {q : puS} {x : Int} (h : puQ lx ly rx ry s q) (v : puV q) (hs : s < 24) (hx : -999 ≤ x ∧ x ≤ 999) : fX7_spansX lx rx (puI (s : Int)) (puI x) = some (puB (q.1 ≤ x ∧ x ≤ q.2.2.1)) := by
  obtain ⟨h1, h2, h3, h4⟩ := h
  obtain ⟨⟨b1, b2, b3, b4⟩, -, -⟩ := v
  unfold fX7_spansX
  simp (disch := omega) only [xsLt_eq, xsBd_sm, xsCk_in, xsBr_10, xsBr_01, xsBr_B0, xsBr_0B, xsBr_1B, xsBr_B1, xsBr_10p, xsBr_01p, xsBr_B0p, xsBr_0Bp, xsBr_1Bp, xsBr_B1p, puB_0, puB_0p, puB_1p, xsBr_not, Classical.not_not, puI_lit, puJ_lit, puI_add, puI_sub, puI_mul, puI_neg, puJ_add, puJ_sub, puJ_mul, puJ_neg, puI_l, puI_clN, puI_clL, puI_lt, puI_le, puI_eq, puJ_lt, puJ_le, puJ_eq, h1, h2, h3, h4, Int.not_lt]
/-- by how much it is above, in its parts -/
noncomputable def puGp (q : puS) (x y : Int) : Int := puE (puW q = 0) (puE (q.2.1 ≤ y) (puE (y ≤ q.2.2.2.1) 0 (q.2.2.2.1 - y)) (q.2.1 - y)) ((q.2.1 - y) * puW q + (x - q.1) * puH q)
theorem p_gap {lx ly rx ry : Nat → Int32} {s : Nat} {q : puS} {x y : Int} (h : puQ lx ly rx ry s q) (v : puV q) (hs : s < 24) (hx : -999 ≤ x ∧ x ≤ 999) (hy : -999 ≤ y ∧ y ≤ 999) : fX7_gapAbove lx ly rx ry (puI (s : Int)) (puI x) (puI y) = some (puJ (puGp q x y)) := by
  have w := puV_w v; have w2 := puV_h v
  have e1 := p_width h v hs
  have e2 := p_rise h v hs
  obtain ⟨h1, h2, h3, h4⟩ := h
  obtain ⟨⟨b1, b2, b3, b4⟩, -, -⟩ := v
  unfold fX7_gapAbove puGp
  rw [e1, e2]
  simp (disch := omega) only [xsLt_eq, xsBd_sm, xsCk_in, puI_lit, puJ_lit, puI_add, puI_sub, puI_mul, puI_neg, puJ_add, puJ_sub, puJ_mul, puJ_neg, puI_l, puI_clN, puI_clL, puI_lt, puI_le, puI_eq, puJ_lt, puJ_le, puJ_eq, h1, h2, h3, h4, xsBr_some, puE_fn puJ]
noncomputable def puPg (q : puS) : Int := puE (puW q = 0) 1 (puW q)
theorem p_parts {lx ly rx ry : Nat → Int32} {s : Nat} {q : puS} (h : puQ lx ly rx ry s q) (v : puV q) (hs : s < 24) : fX7_partsOfGap lx rx (puI (s : Int)) = some (puJ (puPg q)) := by
  have w := puV_w v
  unfold fX7_partsOfGap puPg
  rw [p_width h v hs]
  simp (disch := omega) only [xsBd_sm, puI_lit, puJ_lit, puI_add, puI_sub, puI_mul, puI_neg, puJ_add, puJ_sub, puJ_mul, puJ_neg, puI_l, puI_clN, puI_clL, puI_lt, puI_le, puI_eq, puJ_lt, puJ_le, puJ_eq, xsBr_some, puE_fn puJ]
theorem puGp_bd {q : puS} {x y : Int} (v : puV q) (hx : -999 ≤ x ∧ x ≤ 999) (hy : -999 ≤ y ∧ y ≤ 999) : -7984008 ≤ puGp q x y ∧ puGp q x y ≤ 7984008 := by
  have w := puV_w v; have w2 := puV_h v
  obtain ⟨⟨b1, b2, b3, b4⟩, -, -⟩ := v
  have g1 := pu_mb (v := q.2.1 - y) (w := puW q) 1998 1998 (by omega) (by omega) (by omega) (by omega)
  have g2 := pu_mb (v := x - q.1) (w := puH q) 1998 1998 (by omega) (by omega) (by omega) (by omega)
  unfold puGp
  simp only [puE_eq]
  split
  · split
    · split <;> omega
    · omega
  · omega
theorem p_hasPoint {lx ly rx ry : Nat → Int32} {s : Nat} {q : puS} {x y : Int} (h : puQ lx ly rx ry s q) (v : puV q) (hs : s < 24) (hx : -999 ≤ x ∧ x ≤ 999) (hy : -999 ≤ y ∧ y ≤ 999) : fX7_hasPoint lx ly rx ry (puI (s : Int)) (puI x) (puI y) = some (puB ((q.1 ≤ x ∧ x ≤ q.2.2.1) ∧ puGp q x y = 0)) := by
  have g := puGp_bd v hx hy
  unfold fX7_hasPoint
  rw [p_spansX h v hs hx, p_gap h v hs hx hy]
  simp (disch := omega) only [xsLt_eq, xsBd_sm, xsCk_in, xsBr_10, xsBr_01, xsBr_B0, xsBr_0B, xsBr_1B, xsBr_B1, xsBr_10p, xsBr_01p, xsBr_B0p, xsBr_0Bp, xsBr_1Bp, xsBr_B1p, puB_0, puB_0p, puB_1p, xsBr_not, Classical.not_not, puI_lit, puJ_lit, puI_add, puI_sub, puI_mul, puI_neg, puJ_add, puJ_sub, puJ_mul, puJ_neg, puI_l, puI_clN, puI_clL, puI_lt, puI_le, puI_eq, puJ_lt, puJ_le, puJ_eq]
theorem p_sideOf {lx ly rx ry : Nat → Int32} {s : Nat} {q : puS} {x y : Int} (h : puQ lx ly rx ry s q) (v : puV q) (hs : s < 24) (hx : -999 ≤ x ∧ x ≤ 999) (hy : -999 ≤ y ∧ y ≤ 999) : fX7_sideOf lx ly rx ry (puI (s : Int)) (puI x) (puI y) = some (puJ (puW q * (y - q.2.1) - puH q * (x - q.1))) := by
  have w := puV_w v; have w2 := puV_h v
  have e1 := p_width h v hs
  have e2 := p_rise h v hs
  obtain ⟨h1, h2, h3, h4⟩ := h
  obtain ⟨⟨b1, b2, b3, b4⟩, -, -⟩ := v
  unfold fX7_sideOf
  rw [e1, e2]
  simp (disch := omega) only [xsLt_eq, xsBd_sm, xsCk_in, puI_lit, puJ_lit, puI_add, puI_sub, puI_mul, puI_neg, puJ_add, puJ_sub, puJ_mul, puJ_neg, puI_l, puI_clN, puI_clL, puI_lt, puI_le, puI_eq, puJ_lt, puJ_le, puJ_eq, h1, h2, h3, h4]
/-- a point in its three numbers -/
def puRep (x y d : Int64) (p : puP) : Prop := ∃ X Y D : Int, x = puJ X ∧ y = puJ Y ∧ d = puJ D ∧ (0 < D ∧ D ≤ 7984008) ∧ ((X : Rat) = p.1 * (D : Rat) ∧ (Y : Rat) = p.2 * (D : Rat)) ∧ (-(999 * D) ≤ X ∧ X ≤ 999 * D) ∧ (-(999 * D) ≤ Y ∧ Y ≤ 999 * D)
theorem puOn_bd {a : puS} (va : puV a) {p : puP} (h : puOn a p) : ((-999 : Rat) ≤ p.1 ∧ p.1 ≤ 999) ∧ ((-999 : Rat) ≤ p.2 ∧ p.2 ≤ 999) := by
  obtain ⟨t, t0, t1, e1, e2⟩ := (puOn_t va).mp h
  obtain ⟨⟨b1, b2, b3, b4⟩, -, -⟩ := va
  have w1 := puWq a; have w2 := puHq a
  have c1 : (-999 : Rat) ≤ (a.1 : Rat) := Rat.intCast_le_intCast.mpr b1.1
  have c2 : (a.1 : Rat) ≤ (999 : Rat) := Rat.intCast_le_intCast.mpr b1.2
  have c3 : (-999 : Rat) ≤ (a.2.1 : Rat) := Rat.intCast_le_intCast.mpr b2.1
  have c4 : (a.2.1 : Rat) ≤ (999 : Rat) := Rat.intCast_le_intCast.mpr b2.2
  have c5 : (-999 : Rat) ≤ (a.2.2.1 : Rat) := Rat.intCast_le_intCast.mpr b3.1
  have c6 : (a.2.2.1 : Rat) ≤ (999 : Rat) := Rat.intCast_le_intCast.mpr b3.2
  have c7 : (-999 : Rat) ≤ (a.2.2.2.1 : Rat) := Rat.intCast_le_intCast.mpr b4.1
  have c8 : (a.2.2.2.1 : Rat) ≤ (999 : Rat) := Rat.intCast_le_intCast.mpr b4.2
  have key : ∀ {l r w p : Rat}, r = l + w → p = l + t * w → (-999 : Rat) ≤ l → l ≤ 999 → (-999 : Rat) ≤ r → r ≤ 999 → (-999 : Rat) ≤ p ∧ p ≤ 999 := by
    intro l r w p er ep d1 d2 d3 d4
    have e : p = (1 - t) * l + t * r := by grind
    have m1 := Rat.mul_nonneg (a := 1 - t) (b := l + 999) (by grind) (by grind)
    have m2 := Rat.mul_nonneg (a := t) (b := r + 999) (by grind) (by grind)
    have m3 := Rat.mul_nonneg (a := 1 - t) (b := 999 - l) (by grind) (by grind)
    have m4 := Rat.mul_nonneg (a := t) (b := 999 - r) (by grind) (by grind)
    constructor <;> grind
  exact ⟨key w1 e1 c1 c2 c5 c6, key w2 e2 c3 c4 c7 c8⟩
theorem puRep_mk {X Y D : Int} {p : puP} (hD : 0 < D) (hD2 : D ≤ 7984008) (h1 : (X : Rat) = p.1 * (D : Rat)) (h2 : (Y : Rat) = p.2 * (D : Rat)) (hb : ((-999 : Rat) ≤ p.1 ∧ p.1 ≤ 999) ∧ ((-999 : Rat) ≤ p.2 ∧ p.2 ≤ 999)) : puRep (puJ X) (puJ Y) (puJ D) p := by
  have hd : 0 < (D : Rat) := Rat.intCast_pos.mpr hD
  have key : ∀ {Z : Int} {z : Rat}, (Z : Rat) = z * (D : Rat) → (-999 : Rat) ≤ z → z ≤ 999 → -(999 * D) ≤ Z ∧ Z ≤ 999 * D := by
    intro Z z e l u
    have m1 := Rat.mul_nonneg (a := z + 999) (b := (D : Rat)) (by grind) (Rat.le_of_lt hd)
    have m2 := Rat.mul_nonneg (a := 999 - z) (b := (D : Rat)) (by grind) (Rat.le_of_lt hd)
    constructor
    · apply Rat.intCast_le_intCast.mp
      rw [Rat.intCast_neg, Rat.intCast_mul]
      have : ((999 : Int) : Rat) = 999 := rfl
      rw [this]; grind
    · apply Rat.intCast_le_intCast.mp
      rw [Rat.intCast_mul]
      have : ((999 : Int) : Rat) = 999 := rfl
      rw [this]; grind
  exact ⟨X, Y, D, rfl, rfl, rfl, ⟨hD, hD2⟩, ⟨h1, h2⟩, key h1 hb.1.1 hb.1.2, key h2 hb.2.1 hb.2.2⟩
theorem puD_bd {a b : puS} (va : puV a) (vb : puV b) : (-7984008 ≤ puD a b ∧ puD a b ≤ 7984008) ∧ (-7984008 ≤ puT a b ∧ puT a b ≤ 7984008) ∧ (-7984008 ≤ puU a b ∧ puU a b ≤ 7984008) := by
  have wa := puV_w va; have ha := puV_h va
  have wb := puV_w vb; have hb := puV_h vb
  obtain ⟨⟨a1, a2, a3, a4⟩, -, -⟩ := va
  obtain ⟨⟨b1, b2, b3, b4⟩, -, -⟩ := vb
  have g1 := pu_mb (v := puW a) (w := puH b) 1998 1998 (by omega) (by omega) (by omega) (by omega)
  have g2 := pu_mb (v := puH a) (w := puW b) 1998 1998 (by omega) (by omega) (by omega) (by omega)
  have g3 := pu_mb (v := puGX a b) (w := puH b) 1998 1998 (by unfold puGX; omega) (by unfold puGX; omega) (by omega) (by omega)
  have g4 := pu_mb (v := puGY a b) (w := puW b) 1998 1998 (by unfold puGY; omega) (by unfold puGY; omega) (by omega) (by omega)
  have g5 := pu_mb (v := puGX a b) (w := puH a) 1998 1998 (by unfold puGX; omega) (by unfold puGX; omega) (by omega) (by omega)
  have g6 := pu_mb (v := puGY a b) (w := puW a) 1998 1998 (by unfold puGY; omega) (by unfold puGY; omega) (by omega) (by omega)
  unfold puD puT puU
  omega
