/-! PURE: BOX -/
theorem bx_le {t u c : Rat} (hc : 0 < c) (h : t * c ≤ u * c) : t ≤ u := Rat.le_of_mul_le_mul_right h hc
theorem bx_mul {t u c : Rat} (hc : 0 ≤ c) (h : t ≤ u) : t * c ≤ u * c := by
  have := Rat.mul_nonneg (a := u - t) (b := c) (by grind) hc
  grind
/-- three ranges, each two of which have something in both -/
theorem bx_helly {W h L1 U1 L2 U2 : Rat} (hW : 0 < W) (hh : 0 < h) (a1 : L1 ≤ U1) (a2 : L2 ≤ U2) (a3 : 0 ≤ U1) (a4 : L1 ≤ W) (a5 : 0 ≤ U2) (a6 : L2 ≤ h) (a7 : L1 * h ≤ U2 * W) (a8 : L2 * W ≤ U1 * h) : ∃ t : Rat, 0 ≤ t ∧ t ≤ 1 ∧ (L1 ≤ t * W ∧ t * W ≤ U1) ∧ (L2 ≤ t * h ∧ t * h ≤ U2) := by
  have nW : W ≠ 0 := by grind
  have nh : h ≠ 0 := by grind
  obtain ⟨al, hal⟩ : ∃ al : Rat, al * W = L1 := ⟨L1 / W, Rat.div_mul_cancel nW⟩
  obtain ⟨be, hbe⟩ : ∃ be : Rat, be * h = L2 := ⟨L2 / h, Rat.div_mul_cancel nh⟩
  have useA : 0 ≤ al → be ≤ al → ∃ t : Rat, 0 ≤ t ∧ t ≤ 1 ∧ (L1 ≤ t * W ∧ t * W ≤ U1) ∧ (L2 ≤ t * h ∧ t * h ≤ U2) := by
    intro c d
    refine ⟨al, c, bx_le hW (by grind), ⟨by grind, by grind⟩, ?_, ?_⟩
    · have := bx_mul (c := h) (by grind) d; grind
    · refine bx_le hW ?_
      have e : al * h * W = L1 * h := by rw [← hal]; grind
      rw [e]; exact a7
  have useB : 0 ≤ be → al ≤ be → ∃ t : Rat, 0 ≤ t ∧ t ≤ 1 ∧ (L1 ≤ t * W ∧ t * W ≤ U1) ∧ (L2 ≤ t * h ∧ t * h ≤ U2) := by
    intro c d
    refine ⟨be, c, bx_le hh (by grind), ⟨?_, ?_⟩, by grind, by grind⟩
    · have := bx_mul (c := W) (by grind) d; grind
    · refine bx_le hh ?_
      have e : be * W * h = L2 * W := by rw [← hbe]; grind
      rw [e]; exact a8
  by_cases c : 0 ≤ al
  · by_cases d : be ≤ al
    · exact useA c d
    · exact useB (by grind) (by grind)
  · by_cases d : 0 ≤ be
    · exact useB d (by grind)
    · refine ⟨0, by grind, by grind, ⟨?_, by grind⟩, ?_, by grind⟩
      · have := bx_mul (t := al) (u := 0) (c := W) (by grind) (by grind); grind
      · have := bx_mul (t := be) (u := 0) (c := h) (by grind) (by grind); grind
/-- it has a point of the box -/
def bx_in (x y a b : Int) (p : puP) : Prop := ((x : Rat) ≤ p.1 ∧ p.1 ≤ (a : Rat)) ∧ ((y : Rat) ≤ p.2 ∧ p.2 ≤ (b : Rat))
def bx (q : puS) (x y a b : Int) : Prop := ∃ p, puOn q p ∧ bx_in x y a b p
def bx_s (q : puS) (x y : Int) : Int := puW q * (y - q.2.1) - puH q * (x - q.1)
def bx_n (q : puS) (x y a b : Int) : Prop := q.1 ≤ a ∧ x ≤ q.2.2.1 ∧ min q.2.1 q.2.2.2.1 ≤ b ∧ y ≤ max q.2.1 q.2.2.2.1
def bx_L (q : puS) (x y a b : Int) : Prop := 0 < bx_s q x y ∧ 0 < bx_s q x b ∧ 0 < bx_s q a y ∧ 0 < bx_s q a b
def bx_R (q : puS) (x y a b : Int) : Prop := bx_s q x y < 0 ∧ bx_s q x b < 0 ∧ bx_s q a y < 0 ∧ bx_s q a b < 0
theorem bx_cl {z w : Int} : (z : Rat) ≤ (w : Rat) ↔ z ≤ w := Rat.intCast_le_intCast
theorem bx_sq (q : puS) (x y : Int) : ((bx_s q x y : Int) : Rat) = (puW q : Rat) * ((y : Rat) - (q.2.1 : Rat)) - (puH q : Rat) * ((x : Rat) - (q.1 : Rat)) := by
  unfold bx_s
  simp only [Rat.intCast_sub, Rat.intCast_mul]
theorem bx_class {q : puS} (v : puV q) {x y a b : Int} (hxa : x ≤ a) (hyb : y ≤ b) : (bx_n q x y a b ∧ ¬ bx_L q x y a b ∧ ¬ bx_R q x y a b) ↔ bx q x y a b := by
  have vd := v.2.2
  have zW := puWq q
  have zH := puHq q
  have eH : q.2.2.2.1 = q.2.1 + puH q := by unfold puH; omega
  have eW : q.2.2.1 = q.1 + puW q := by unfold puW; omega
  have cxa := bx_cl.mpr hxa
  have cyb := bx_cl.mpr hyb
  constructor
  · rintro ⟨⟨n1, n2, n3, n4⟩, nL, nR⟩
    have m1 := bx_cl.mpr n1
    have m2 := bx_cl.mpr n2
    rw [zW] at m2
    rcases Int.lt_or_le 0 (puW q) with w | w
    · have pW : 0 < (puW q : Rat) := Rat.intCast_pos.mpr w
      rcases Int.lt_trichotomy 0 (puH q) with h | h | h
      · have ph : 0 < (puH q : Rat) := Rat.intCast_pos.mpr h
        have m3 : q.2.1 ≤ b := by omega
        have m4 : y ≤ q.2.2.2.1 := by omega
        have m3 := bx_cl.mpr m3
        have m4 := bx_cl.mpr m4
        rw [zH] at m4
        have mn := Int.mul_le_mul_of_nonneg_left (show y - q.2.1 ≤ b - q.2.1 by omega) (show 0 ≤ puW q by omega)
        have mh := Int.mul_le_mul_of_nonneg_left (show x - q.1 ≤ a - q.1 by omega) (show 0 ≤ puH q by omega)
        have k1 : bx_s q a y ≤ 0 := by
          apply Classical.byContradiction
          intro z
          apply nL
          unfold bx_L bx_s at *
          omega
        have k2 : 0 ≤ bx_s q x b := by
          apply Classical.byContradiction
          intro z
          apply nR
          unfold bx_R bx_s at *
          omega
        have k1 := bx_cl.mpr k1
        have k2 := bx_cl.mpr k2
        rw [bx_sq, show ((0 : Int) : Rat) = 0 by rfl] at k1 k2
        obtain ⟨t, t0, t1, ⟨c1, c2⟩, c3, c4⟩ := bx_helly (W := (puW q : Rat)) (h := (puH q : Rat)) (L1 := (x : Rat) - (q.1 : Rat)) (U1 := (a : Rat) - (q.1 : Rat)) (L2 := (y : Rat) - (q.2.1 : Rat)) (U2 := (b : Rat) - (q.2.1 : Rat)) pW ph (by grind) (by grind) (by grind) (by grind) (by grind) (by grind) (by grind) (by grind)
        exact ⟨((q.1 : Rat) + t * (puW q : Rat), (q.2.1 : Rat) + t * (puH q : Rat)), (puOn_t v).mpr ⟨t, t0, t1, rfl, rfl⟩, ⟨by simp only; grind, by simp only; grind⟩, by simp only; grind, by simp only; grind⟩
      · have m3 : q.2.1 ≤ b := by omega
        have m4 : y ≤ q.2.1 := by omega
        have m3 := bx_cl.mpr m3
        have m4 := bx_cl.mpr m4
        obtain ⟨t, t0, t1, ⟨c1, c2⟩, c3, c4⟩ := bx_helly (W := (puW q : Rat)) (h := 1) (L1 := (x : Rat) - (q.1 : Rat)) (U1 := (a : Rat) - (q.1 : Rat)) (L2 := 0) (U2 := 1) pW (by grind) (by grind) (by grind) (by grind) (by grind) (by grind) (by grind) (by grind) (by grind)
        have hz : (puH q : Rat) = 0 := by rw [← h]; rfl
        exact ⟨((q.1 : Rat) + t * (puW q : Rat), (q.2.1 : Rat) + t * (puH q : Rat)), (puOn_t v).mpr ⟨t, t0, t1, rfl, rfl⟩, ⟨by simp only; grind, by simp only; grind⟩, by simp only; rw [hz]; grind, by simp only; rw [hz]; grind⟩
      · have ph : 0 < -(puH q : Rat) := by
          have := Rat.intCast_pos.mpr (show 0 < -puH q by omega)
          rw [Rat.intCast_neg] at this; exact this
        have m3 : q.2.2.2.1 ≤ b := by omega
        have m4 : y ≤ q.2.1 := by omega
        have m3 := bx_cl.mpr m3
        have m4 := bx_cl.mpr m4
        rw [zH] at m3
        have mn := Int.mul_le_mul_of_nonneg_left (show y - q.2.1 ≤ b - q.2.1 by omega) (show 0 ≤ puW q by omega)
        have mh := Int.mul_le_mul_of_nonpos_left (show puH q ≤ 0 by omega) (show x - q.1 ≤ a - q.1 by omega)
        have k1 : bx_s q x y ≤ 0 := by
          apply Classical.byContradiction
          intro z
          apply nL
          unfold bx_L bx_s at *
          omega
        have k2 : 0 ≤ bx_s q a b := by
          apply Classical.byContradiction
          intro z
          apply nR
          unfold bx_R bx_s at *
          omega
        have k1 := bx_cl.mpr k1
        have k2 := bx_cl.mpr k2
        rw [bx_sq, show ((0 : Int) : Rat) = 0 by rfl] at k1 k2
        obtain ⟨t, t0, t1, ⟨c1, c2⟩, c3, c4⟩ := bx_helly (W := (puW q : Rat)) (h := -(puH q : Rat)) (L1 := (x : Rat) - (q.1 : Rat)) (U1 := (a : Rat) - (q.1 : Rat)) (L2 := (q.2.1 : Rat) - (b : Rat)) (U2 := (q.2.1 : Rat) - (y : Rat)) pW ph (by grind) (by grind) (by grind) (by grind) (by grind) (by grind) (by grind) (by grind)
        exact ⟨((q.1 : Rat) + t * (puW q : Rat), (q.2.1 : Rat) + t * (puH q : Rat)), (puOn_t v).mpr ⟨t, t0, t1, rfl, rfl⟩, ⟨by simp only; grind, by simp only; grind⟩, by simp only; grind, by simp only; grind⟩
    · have w0 : puW q = 0 := by omega
      have h0 : 0 ≤ puH q := by omega
      have hz : (puW q : Rat) = 0 := by rw [w0]; rfl
      have m3 : q.2.1 ≤ b := by omega
      have m4 : y ≤ q.2.2.2.1 := by omega
      have m3 := bx_cl.mpr m3
      have m4 := bx_cl.mpr m4
      rw [zH] at m4
      by_cases c : y ≤ q.2.1
      · have c' := bx_cl.mpr c
        refine ⟨puA q, puOn_A v, ⟨?_, ?_⟩, ?_, ?_⟩
        · unfold puA; simp only; grind
        · unfold puA; simp only; grind
        · unfold puA; simp only; grind
        · unfold puA; simp only; grind
      · have hp : 0 < puH q := by omega
        have ph : 0 < (puH q : Rat) := Rat.intCast_pos.mpr hp
        have c' : (q.2.1 : Rat) < (y : Rat) := Rat.intCast_lt_intCast.mpr (by omega)
        have nh : (puH q : Rat) ≠ 0 := by grind
        obtain ⟨t, ht⟩ : ∃ t : Rat, t * (puH q : Rat) = (y : Rat) - (q.2.1 : Rat) := ⟨((y : Rat) - (q.2.1 : Rat)) / (puH q : Rat), Rat.div_mul_cancel nh⟩
        refine ⟨((q.1 : Rat) + t * (puW q : Rat), (q.2.1 : Rat) + t * (puH q : Rat)), (puOn_t v).mpr ⟨t, bx_le ph (by grind), bx_le ph (by grind), rfl, rfl⟩, ⟨?_, ?_⟩, ?_, ?_⟩
        · simp only; rw [hz]; grind
        · simp only; rw [hz]; grind
        · simp only; grind
        · simp only; grind
  · rintro ⟨p, hp, ⟨i1, i2⟩, i3, i4⟩
    obtain ⟨t, t0, t1, p1, p2⟩ := (puOn_t v).mp hp
    have hw : 0 ≤ (puW q : Rat) := by
      apply Rat.intCast_nonneg.mpr
      rcases vd with z | z <;> omega
    have tw := Rat.mul_nonneg t0 hw
    have tw2 := bx_mul (c := (puW q : Rat)) hw t1
    rw [Rat.one_mul] at tw2
    have n1 : q.1 ≤ a := bx_cl.mp (by grind)
    have n2 : x ≤ q.2.2.1 := bx_cl.mp (by rw [zW]; grind)
    have side : (puW q : Rat) * (p.2 - (q.2.1 : Rat)) - (puH q : Rat) * (p.1 - (q.1 : Rat)) = 0 := by rw [p1, p2]; grind
    have w1 := bx_mul (c := (puW q : Rat)) hw i3
    have w2 := bx_mul (c := (puW q : Rat)) hw i4
    rcases Int.le_total 0 (puH q) with h | h
    · have hh : 0 ≤ (puH q : Rat) := Rat.intCast_nonneg.mpr h
      have th := Rat.mul_nonneg t0 hh
      have th2 := bx_mul (c := (puH q : Rat)) hh t1
      rw [Rat.one_mul] at th2
      have n3 : q.2.1 ≤ b := bx_cl.mp (by grind)
      have n4 : y ≤ q.2.2.2.1 := bx_cl.mp (by rw [zH]; grind)
      have h1 := bx_mul (c := (puH q : Rat)) hh i1
      have h2 := bx_mul (c := (puH q : Rat)) hh i2
      refine ⟨⟨n1, n2, by omega, by omega⟩, ?_, ?_⟩
      · rintro ⟨-, -, k, -⟩
        have k2 := Rat.intCast_pos.mpr k
        rw [bx_sq] at k2
        grind
      · rintro ⟨-, k, -, -⟩
        have k2 := pg_neg.mpr k
        rw [bx_sq] at k2
        grind
    · have hh : 0 ≤ -(puH q : Rat) := by
        have := Rat.intCast_nonneg.mpr (show 0 ≤ -puH q by omega)
        rw [Rat.intCast_neg] at this; exact this
      have th := Rat.mul_nonneg t0 hh
      have th2 := bx_mul (c := -(puH q : Rat)) hh t1
      rw [Rat.one_mul] at th2
      have n3 : q.2.2.2.1 ≤ b := bx_cl.mp (by rw [zH]; grind)
      have n4 : y ≤ q.2.1 := bx_cl.mp (by grind)
      have h1 := bx_mul (c := -(puH q : Rat)) hh i1
      have h2 := bx_mul (c := -(puH q : Rat)) hh i2
      refine ⟨⟨n1, n2, by omega, by omega⟩, ?_, ?_⟩
      · rintro ⟨k, -, -, -⟩
        have k2 := Rat.intCast_pos.mpr k
        rw [bx_sq] at k2
        grind
      · rintro ⟨-, -, -, k⟩
        have k2 := pg_neg.mpr k
        rw [bx_sq] at k2
        grind
theorem bx_cv {c h u T w lo : Rat} (a1 : u ≤ T) (a2 : T ≤ w) (b1 : lo ≤ c + u * h) (b2 : lo ≤ c + w * h) : lo ≤ c + T * h := by
  by_cases z : 0 ≤ h
  · have := bx_mul (c := h) z a1; grind
  · have := bx_mul (c := -h) (by grind) a2; grind
theorem bx_cV {c h u T w hi : Rat} (a1 : u ≤ T) (a2 : T ≤ w) (b1 : c + u * h ≤ hi) (b2 : c + w * h ≤ hi) : c + T * h ≤ hi := by
  by_cases z : 0 ≤ h
  · have := bx_mul (c := h) z a2; grind
  · have := bx_mul (c := -h) (by grind) a1; grind
/-- LEFT in it, or a point of it on its rim -/
theorem bx_rim {q : puS} (v : puV q) {x y a b : Int} (h : bx q x y a b) : bx_in x y a b (puA q) ∨ ∃ p, puOn q p ∧ bx_in x y a b p ∧ (p.1 = (x : Rat) ∨ p.2 = (y : Rat) ∨ p.2 = (b : Rat)) := by
  by_cases cA : bx_in x y a b (puA q)
  · exact Or.inl cA
  right
  obtain ⟨p, hp, ⟨i1, i2⟩, i3, i4⟩ := h
  obtain ⟨t, t0, t1, p1, p2⟩ := (puOn_t v).mp hp
  have hw : 0 ≤ (puW q : Rat) := by
    have vd := v.2.2
    apply Rat.intCast_nonneg.mpr
    rcases vd with z | z <;> omega
  have tw := Rat.mul_nonneg t0 hw
  rw [p1] at i1 i2
  rw [p2] at i3 i4
  unfold bx_in puA at cA
  simp only at cA
  -- how far to the box's X
  obtain ⟨r, r0, rt, rx, rr⟩ : ∃ r : Rat, 0 ≤ r ∧ r ≤ t ∧ (x : Rat) ≤ (q.1 : Rat) + r * (puW q : Rat) ∧ (r = 0 ∨ (q.1 : Rat) + r * (puW q : Rat) = (x : Rat)) := by
    by_cases c : (x : Rat) ≤ (q.1 : Rat)
    · exact ⟨0, by grind, t0, by grind, Or.inl rfl⟩
    · have w0 : (puW q : Rat) ≠ 0 := by
        intro z; rw [z] at i1; grind
      have pw : 0 < (puW q : Rat) := by grind
      obtain ⟨r, hr⟩ : ∃ r : Rat, r * (puW q : Rat) = (x : Rat) - (q.1 : Rat) := ⟨((x : Rat) - (q.1 : Rat)) / (puW q : Rat), Rat.div_mul_cancel w0⟩
      exact ⟨r, bx_le pw (by grind), bx_le pw (by grind), by grind, Or.inr (by grind)⟩
  -- how far to its Y
  obtain ⟨s, s0, st, sy1, sy2, ss⟩ : ∃ s : Rat, 0 ≤ s ∧ s ≤ t ∧ (y : Rat) ≤ (q.2.1 : Rat) + s * (puH q : Rat) ∧ (q.2.1 : Rat) + s * (puH q : Rat) ≤ (b : Rat) ∧ (s = 0 ∨ (q.2.1 : Rat) + s * (puH q : Rat) = (y : Rat) ∨ (q.2.1 : Rat) + s * (puH q : Rat) = (b : Rat)) := by
    by_cases c : (y : Rat) ≤ (q.2.1 : Rat)
    · by_cases d : (q.2.1 : Rat) ≤ (b : Rat)
      · exact ⟨0, by grind, t0, by grind, by grind, Or.inl rfl⟩
      · have h0 : (puH q : Rat) < 0 := by
          apply Classical.byContradiction
          intro z
          have := Rat.mul_nonneg t0 (show 0 ≤ (puH q : Rat) by grind)
          grind
        have ph : 0 < -(puH q : Rat) := by grind
        obtain ⟨s, hs⟩ : ∃ s : Rat, s * -(puH q : Rat) = (q.2.1 : Rat) - (b : Rat) := ⟨((q.2.1 : Rat) - (b : Rat)) / -(puH q : Rat), Rat.div_mul_cancel (by grind)⟩
        exact ⟨s, bx_le ph (by grind), bx_le ph (by grind), by grind, by grind, Or.inr (Or.inr (by grind))⟩
    · have h0 : 0 < (puH q : Rat) := by
        apply Classical.byContradiction
        intro z
        have := Rat.mul_nonneg t0 (show 0 ≤ -(puH q : Rat) by grind)
        grind
      obtain ⟨s, hs⟩ : ∃ s : Rat, s * (puH q : Rat) = (y : Rat) - (q.2.1 : Rat) := ⟨((y : Rat) - (q.2.1 : Rat)) / (puH q : Rat), Rat.div_mul_cancel (by grind)⟩
      exact ⟨s, bx_le h0 (by grind), bx_le h0 (by grind), by grind, by grind, Or.inr (Or.inl (by grind))⟩
  have mk : ∀ T : Rat, 0 ≤ T → r ≤ T → s ≤ T → T ≤ t → (T = r ∧ r ≠ 0 ∨ T = s ∧ s ≠ 0) → ∃ p, puOn q p ∧ bx_in x y a b p ∧ (p.1 = (x : Rat) ∨ p.2 = (y : Rat) ∨ p.2 = (b : Rat)) := by
    intro T T0 rT sT Tt e
    have rw1 := bx_mul (c := (puW q : Rat)) hw rT
    have rw2 := bx_mul (c := (puW q : Rat)) hw Tt
    refine ⟨((q.1 : Rat) + T * (puW q : Rat), (q.2.1 : Rat) + T * (puH q : Rat)), (puOn_t v).mpr ⟨T, T0, by grind, rfl, rfl⟩, ⟨⟨by simp only; grind, by simp only; grind⟩, bx_cv sT Tt sy1 i3, bx_cV sT Tt sy2 i4⟩, ?_⟩
    simp only
    rcases e with ⟨rfl, e⟩ | ⟨rfl, e⟩
    · rcases rr with z | z
      · exact absurd z e
      · exact Or.inl z
    · rcases ss with z | z
      · exact absurd z e
      · exact Or.inr z
  by_cases c : s ≤ r
  · by_cases z : r = 0
    · exfalso
      have z2 : s = 0 := by grind
      subst z; subst z2
      apply cA
      refine ⟨⟨by grind, by grind⟩, by grind, by grind⟩
    · exact mk r r0 (by grind) c rt (Or.inl ⟨rfl, z⟩)
  · exact mk s s0 (by grind) (by grind) st (Or.inr ⟨rfl, by grind⟩)
/-- on a side of the box -/
theorem bx_hor {x a y : Int} (hx : puInC x) (ha : puInC a) (hy : puInC y) (h : x ≤ a) {p : puP} : puOn (ch_o x y a y 0) p ↔ (((x : Rat) ≤ p.1 ∧ p.1 ≤ (a : Rat)) ∧ p.2 = (y : Rat)) := by
  have v := ch_oV hx hy ha hy (show 0 ≤ (0 : Int) ∧ (0 : Int) ≤ 3 by omega)
  have e : ch_o x y a y 0 = (x, y, a, y, 0) := puE_pos (by omega)
  rw [e] at v ⊢
  have c := bx_cl.mpr h
  rw [puOn_t v]
  unfold puW puH
  simp only [Int.sub_self, Rat.intCast_sub]
  rw [show ((0 : Int) : Rat) = 0 by rfl]
  constructor
  · rintro ⟨t, t0, t1, p1, p2⟩
    have a1 := Rat.mul_nonneg t0 (show 0 ≤ (a : Rat) - (x : Rat) by grind)
    have a2 := bx_mul (c := (a : Rat) - (x : Rat)) (by grind) t1
    refine ⟨⟨by grind, by grind⟩, by grind⟩
  · rintro ⟨⟨p1, p2⟩, p3⟩
    by_cases z : (a : Rat) - (x : Rat) = 0
    · exact ⟨0, by grind, by grind, by grind, by grind⟩
    · have pz : 0 < (a : Rat) - (x : Rat) := by grind
      obtain ⟨t, ht⟩ : ∃ t : Rat, t * ((a : Rat) - (x : Rat)) = p.1 - (x : Rat) := ⟨(p.1 - (x : Rat)) / ((a : Rat) - (x : Rat)), Rat.div_mul_cancel z⟩
      exact ⟨t, bx_le pz (by grind), bx_le pz (by grind), by grind, by grind⟩
theorem bx_ver {x y b : Int} (hx : puInC x) (hy : puInC y) (hb : puInC b) (h : y ≤ b) {p : puP} : puOn (ch_o x y x b 0) p ↔ (p.1 = (x : Rat) ∧ ((y : Rat) ≤ p.2 ∧ p.2 ≤ (b : Rat))) := by
  have v := ch_oV hx hy hx hb (show 0 ≤ (0 : Int) ∧ (0 : Int) ≤ 3 by omega)
  have e : ch_o x y x b 0 = (x, y, x, b, 0) := puE_pos (by omega)
  rw [e] at v ⊢
  have c := bx_cl.mpr h
  rw [puOn_t v]
  unfold puW puH
  simp only [Int.sub_self, Rat.intCast_sub]
  rw [show ((0 : Int) : Rat) = 0 by rfl]
  constructor
  · rintro ⟨t, t0, t1, p1, p2⟩
    have a1 := Rat.mul_nonneg t0 (show 0 ≤ (b : Rat) - (y : Rat) by grind)
    have a2 := bx_mul (c := (b : Rat) - (y : Rat)) (by grind) t1
    refine ⟨by grind, by grind, by grind⟩
  · rintro ⟨p3, p1, p2⟩
    by_cases z : (b : Rat) - (y : Rat) = 0
    · exact ⟨0, by grind, by grind, by grind, by grind⟩
    · have pz : 0 < (b : Rat) - (y : Rat) := by grind
      obtain ⟨t, ht⟩ : ∃ t : Rat, t * ((b : Rat) - (y : Rat)) = p.2 - (y : Rat) := ⟨(p.2 - (y : Rat)) / ((b : Rat) - (y : Rat)), Rat.div_mul_cancel z⟩
      exact ⟨t, bx_le pz (by grind), bx_le pz (by grind), by grind, by grind⟩
def bx_t (q r : puS) : Prop := ∃ p, puOn q p ∧ puOn r p
theorem bx_kd {q r : puS} (v : puV q) (w : puV r) : puKd q r ≠ 0 ↔ bx_t q r := by
  constructor
  · intro h
    have kl := puKd_le q r
    rcases (show puKd q r = 1 ∨ puKd q r = 2 by omega) with k | k
    · obtain ⟨h1, h2, -⟩ := puKd_1 v w k
      exact ⟨_, h1, h2⟩
    · obtain ⟨-, -, -, p, -, -, h1, h2, -⟩ := puKd_2 v w k
      exact ⟨p, h1, h2⟩
  · rintro ⟨p, h1, h2⟩
    exact puKd_0 v w h1 h2
/-- as the reference asks -/
theorem bx_model {q : puS} (v : puV q) {x y a b : Int} (hx : puInC x) (hy : puInC y) (ha : puInC a) (hb : puInC b) (hxa : x ≤ a) (hyb : y ≤ b) : ((((x ≤ q.1 ∧ q.1 ≤ a) ∧ y ≤ q.2.1 ∧ q.2.1 ≤ b) ∨ bx_t q (ch_o x y a y 0)) ∨ bx_t q (ch_o x b a b 0)) ∨ bx_t q (ch_o x y x b 0) ∨ bx_t q (ch_o a y a b 0) ↔ bx q x y a b := by
  have cxa := bx_cl.mpr hxa
  have cyb := bx_cl.mpr hyb
  constructor
  · rintro (((h | ⟨p, h1, h2⟩) | ⟨p, h1, h2⟩) | ⟨p, h1, h2⟩ | ⟨p, h1, h2⟩)
    · refine ⟨puA q, puOn_A v, ⟨bx_cl.mpr h.1.1, bx_cl.mpr h.1.2⟩, bx_cl.mpr h.2.1, bx_cl.mpr h.2.2⟩
    · obtain ⟨k1, k2⟩ := (bx_hor hx ha hy hxa).mp h2
      exact ⟨p, h1, k1, by grind, by grind⟩
    · obtain ⟨k1, k2⟩ := (bx_hor hx ha hb hxa).mp h2
      exact ⟨p, h1, k1, by grind, by grind⟩
    · obtain ⟨k1, k2⟩ := (bx_ver hx hy hb hyb).mp h2
      exact ⟨p, h1, ⟨by grind, by grind⟩, k2⟩
    · obtain ⟨k1, k2⟩ := (bx_ver ha hy hb hyb).mp h2
      exact ⟨p, h1, ⟨by grind, by grind⟩, k2⟩
  · intro h
    rcases bx_rim v h with ⟨⟨k1, k2⟩, k3, k4⟩ | ⟨p, h1, ⟨i1, i2⟩, h3⟩
    · exact Or.inl (Or.inl (Or.inl ⟨⟨bx_cl.mp k1, bx_cl.mp k2⟩, bx_cl.mp k3, bx_cl.mp k4⟩))
    · rcases h3 with h3 | h3 | h3
      · exact Or.inr (Or.inl ⟨p, h1, (bx_ver hx hy hb hyb).mpr ⟨h3, i2⟩⟩)
      · exact Or.inl (Or.inl (Or.inr ⟨p, h1, (bx_hor hx ha hy hxa).mpr ⟨i1, h3⟩⟩))
      · exact Or.inl (Or.inr ⟨p, h1, (bx_hor hx ha hb hxa).mpr ⟨i1, h3⟩⟩)
theorem p_comes {lx ly rx ry : Nat → Int32} {s : Nat} {q : puS} (h : puQ lx ly rx ry s q) (v : puV q) (hs : s < 24) {x y a b : Int} (hx : puInC x) (hy : puInC y) (ha : puInC a) (hb : puInC b) : fX7_comesInto lx ly rx ry (puI (s : Int)) (puI x) (puI y) (puI a) (puI b) = some (puB (bx_n q x y a b ∧ ¬ bx_L q x y a b ∧ ¬ bx_R q x y a b)) := by
  have s1 := p_sideOf h v hs hx hy
  have s2 := p_sideOf h v hs hx hb
  have s3 := p_sideOf h v hs ha hy
  have s4 := p_sideOf h v hs ha hb
  have bd : ∀ x y : Int, puInC x → puInC y → -8000000 ≤ bx_s q x y ∧ bx_s q x y ≤ 8000000 := by
    intro x y hx hy
    have bw := puV_w v; have bh := puV_h v
    obtain ⟨⟨b1, b2, b3, b4⟩, -, -⟩ := v
    unfold puInC at hx hy
    have k1 := pu_mb (v := puW q) (w := y - q.2.1) 1998 1998 (by omega) (by omega) (by omega) (by omega)
    have k2 := pu_mb (v := puH q) (w := x - q.1) 1998 1998 (by omega) (by omega) (by omega) (by omega)
    unfold bx_s; omega
  have d1 := bd x y hx hy
  have d2 := bd x b hx hb
  have d3 := bd a y ha hy
  have d4 := bd a b ha hb
  rw [show puW q * (y - q.2.1) - puH q * (x - q.1) = bx_s q x y by rfl] at s1
  rw [show puW q * (b - q.2.1) - puH q * (x - q.1) = bx_s q x b by rfl] at s2
  rw [show puW q * (y - q.2.1) - puH q * (a - q.1) = bx_s q a y by rfl] at s3
  rw [show puW q * (b - q.2.1) - puH q * (a - q.1) = bx_s q a b by rfl] at s4
  obtain ⟨q1, q2, q3, q4⟩ := h
  obtain ⟨⟨b1, b2, b3, b4⟩, -, -⟩ := v
  unfold puInC at hx hy ha hb
  unfold fX7_comesInto
  simp (disch := omega) only [xsCk_in, puI_clN, q1, q2, q3, q4, pu_ifmin, pu_ifmax]
  have en : xsBr (puI a < puI q.1) (some (0 : Int32)) (xsBr (puI q.2.2.1 < puI x) (some (0 : Int32)) (xsBr (puI b < puI (min q.2.1 q.2.2.2.1)) (some (0 : Int32)) (xsBr (puI (max q.2.1 q.2.2.2.1) < puI y) (some (0 : Int32)) (some (1 : Int32))))) = some (puB (bx_n q x y a b)) := by
    unfold bx_n
    rw [xsBr_iff (puI_lt (a := a) (b := q.1) (by omega) (by omega) (by omega) (by omega)), xsBr_iff (puI_lt (a := q.2.2.1) (b := x) (by omega) (by omega) (by omega) (by omega)), xsBr_iff (puI_lt (a := b) (b := min q.2.1 q.2.2.2.1) (by omega) (by omega) (by omega) (by omega)), xsBr_iff (puI_lt (a := max q.2.1 q.2.2.2.1) (b := y) (by omega) (by omega) (by omega) (by omega))]
    by_cases c1 : a < q.1
    · rw [xsBr_pos c1, puB_neg (by omega)]
    · rw [xsBr_neg c1]
      by_cases c2 : q.2.2.1 < x
      · rw [xsBr_pos c2, puB_neg (by omega)]
      · rw [xsBr_neg c2]
        by_cases c3 : b < min q.2.1 q.2.2.2.1
        · rw [xsBr_pos c3, puB_neg (by omega)]
        · rw [xsBr_neg c3]
          by_cases c4 : max q.2.1 q.2.2.2.1 < y
          · rw [xsBr_pos c4, puB_neg (by omega)]
          · rw [xsBr_neg c4, puB_pos (by omega)]
  rw [en, xsBd_sm]
  unfold fX7_comesInto_J65
  by_cases c : bx_n q x y a b
  case neg => rw [pu_bf c, puB_neg (fun z => c z.1)]
  rw [pu_bt c, s1, s2, s3, s4]
  simp only [xsBd_sm]
  rw [show (0 : Int64) = puJ 0 by rfl]
  have eL : xsBr (puJ (bx_s q x y) ≤ puJ 0) (some (0 : Int32)) (xsBr (puJ (bx_s q x b) ≤ puJ 0) (some (0 : Int32)) (xsBr (puJ (bx_s q a y) ≤ puJ 0) (some (0 : Int32)) (xsBr (puJ (bx_s q a b) ≤ puJ 0) (some (0 : Int32)) (some (1 : Int32))))) = some (puB (bx_L q x y a b)) := by
    unfold bx_L
    rw [xsBr_iff (puJ_le (a := bx_s q x y) (b := 0) (by omega) (by omega) (by omega) (by omega)), xsBr_iff (puJ_le (a := bx_s q x b) (b := 0) (by omega) (by omega) (by omega) (by omega)), xsBr_iff (puJ_le (a := bx_s q a y) (b := 0) (by omega) (by omega) (by omega) (by omega)), xsBr_iff (puJ_le (a := bx_s q a b) (b := 0) (by omega) (by omega) (by omega) (by omega))]
    by_cases c1 : bx_s q x y ≤ 0
    · rw [xsBr_pos c1, puB_neg (by omega)]
    · rw [xsBr_neg c1]
      by_cases c2 : bx_s q x b ≤ 0
      · rw [xsBr_pos c2, puB_neg (by omega)]
      · rw [xsBr_neg c2]
        by_cases c3 : bx_s q a y ≤ 0
        · rw [xsBr_pos c3, puB_neg (by omega)]
        · rw [xsBr_neg c3]
          by_cases c4 : bx_s q a b ≤ 0
          · rw [xsBr_pos c4, puB_neg (by omega)]
          · rw [xsBr_neg c4, puB_pos (by omega)]
  rw [eL, xsBd_sm]
  unfold fX7_comesInto_J147
  rw [show (0 : Int64) = puJ 0 by rfl]
  have eR : xsBr (puJ 0 ≤ puJ (bx_s q x y)) (some (0 : Int32)) (xsBr (puJ 0 ≤ puJ (bx_s q x b)) (some (0 : Int32)) (xsBr (puJ 0 ≤ puJ (bx_s q a y)) (some (0 : Int32)) (xsBr (puJ 0 ≤ puJ (bx_s q a b)) (some (0 : Int32)) (some (1 : Int32))))) = some (puB (bx_R q x y a b)) := by
    unfold bx_R
    rw [xsBr_iff (puJ_le (a := 0) (b := bx_s q x y) (by omega) (by omega) (by omega) (by omega)), xsBr_iff (puJ_le (a := 0) (b := bx_s q x b) (by omega) (by omega) (by omega) (by omega)), xsBr_iff (puJ_le (a := 0) (b := bx_s q a y) (by omega) (by omega) (by omega) (by omega)), xsBr_iff (puJ_le (a := 0) (b := bx_s q a b) (by omega) (by omega) (by omega) (by omega))]
    by_cases c1 : 0 ≤ bx_s q x y
    · rw [xsBr_pos c1, puB_neg (by omega)]
    · rw [xsBr_neg c1]
      by_cases c2 : 0 ≤ bx_s q x b
      · rw [xsBr_pos c2, puB_neg (by omega)]
      · rw [xsBr_neg c2]
        by_cases c3 : 0 ≤ bx_s q a y
        · rw [xsBr_pos c3, puB_neg (by omega)]
        · rw [xsBr_neg c3]
          by_cases c4 : 0 ≤ bx_s q a b
          · rw [xsBr_pos c4, puB_neg (by omega)]
          · rw [xsBr_neg c4, puB_pos (by omega)]
  rw [eR, xsBd_sm]
  unfold fX7_comesInto_J182
  by_cases l : bx_L q x y a b
  · rw [pu_bt l, puB_neg (fun z => z.2.1 l)]
  · rw [pu_bf l]
    by_cases r : bx_R q x y a b
    · rw [pu_bt r, puB_neg (fun z => z.2.2 r)]
    · rw [pu_bf r, puB_pos ⟨c, l, r⟩]
theorem p_box39 {n : Nat} {G : puG} {lx ly rx ry : Nat → Int32} (hv : puVal n G) (hk : puKW n G lx ly rx ry) {x y a b : Int} (hx : puInC x) (hy : puInC y) (ha : puInC a) (hb : puInC b) (hxa : x ≤ a) (hyb : y ≤ b) : puOk (xsWh (fun s9 => fX10_box_L39 lx ly rx ry (puI (n : Int)) (puI x) (puI y) (puI a) (puI b) s9.1 s9.2) ((0 : Int32), (0 : Int32))) (fun r => puSt r (fun s => s < n ∧ bx (G s) x y a b)) := by
  have hn := hv.1
  refine puFor1 n (fun m z => z.2 = puI (m : Int) ∧ puSt z.1 (fun s => s < m ∧ bx (G s) x y a b)) _ ⟨rfl, puSt_start⟩ ?_ ?_
  · rintro m ⟨y7, y8⟩ hm ⟨rfl, h⟩
    simp only at h
    simp only [fX10_box_L39]
    rw [pu_go hm (by omega), p_comes (hk m hm) (hv.2 m hm) (by omega) hx hy ha hb, xsBd_sm, puB_iff (bx_class (hv.2 m hm) hxa hyb)]
    by_cases c : bx (G m) x y a b
    · rw [pu_bt c, xsLt_eq, xsBd_sm]
      simp only [fX10_box_J77]
      rw [xsLt_eq, puI_s1]
      exact ⟨_, rfl, rfl, puSt_put (by omega) h c⟩
    · rw [pu_bf c, xsBd_sm]
      simp only [fX10_box_J77]
      rw [xsLt_eq, puI_s1]
      exact ⟨_, rfl, rfl, puSt_pass h c⟩
  · rintro ⟨y7, y8⟩ ⟨rfl, h⟩
    simp only [fX10_box_L39]
    rw [pu_out (by omega)]
    exact ⟨_, rfl, h⟩
theorem p_hits {n : Nat} {G : puG} {w : Nat → Int32} (hv : puVal n G) (hw : puMW n G w) {s : Nat} (hs : s < n) {x y a b : Int} (hx : puInC x) (hy : puInC y) (ha : puInC a) (hb : puInC b) {one two sh : Nat → Int32} {x0 y0 d0 : Int64} : puOk (fX11_hits w one two sh x0 y0 d0 (puI (s : Int)) (puI x) (puI y) (puI a) (puI b)) (fun o => o.1 = puB (bx_t (G s) (ch_o x y a b 0))) := by
  have hn := hv.1
  have v := hv.2 s hs
  have v0 := ch_oV hx hy ha hb (show 0 ≤ (0 : Int) ∧ (0 : Int) ≤ 3 by omega)
  obtain ⟨f, ef, hf⟩ := p_takes (f := one) (show s < 24 by omega) (hw.2 s hs)
  obtain ⟨g, eg, hg⟩ := p_stretch (f := two) hx hy ha hb
  obtain ⟨r, er, r0, -⟩ := p_shares hf hg v v0 (sh := sh) (x0 := x0) (y0 := y0) (d0 := d0)
  have kl := puKd_le (G s) (ch_o x y a b 0)
  have ko : (r.1 = 0) ↔ ¬ bx_t (G s) (ch_o x y a b 0) := by
    rw [← bx_kd v v0, r0, show (0 : Int32) = puI ((0 : Nat) : Int) by rfl, puI_eqN (by omega) (by omega), Classical.not_not]
  unfold fX11_hits
  rw [xsBd_some ef, xsBd_some eg, xsBd_some er, xsBr_iff ko]
  by_cases c : bx_t (G s) (ch_o x y a b 0)
  · rw [xsBr_neg (fun q => q c), puB_pos c]; exact puOk_some rfl
  · rw [xsBr_pos c, puB_neg c]; exact puOk_some rfl
theorem p_mbox54 {n : Nat} {G : puG} {w : Nat → Int32} (hv : puVal n G) (hw : puMW n G w) {x y a b : Int} (hx : puInC x) (hy : puInC y) (ha : puInC a) (hb : puInC b) (hxa : x ≤ a) (hyb : y ≤ b) {one two sh : Nat → Int32} {x0 y0 d0 : Int64} : puOk (xsWh (fun s14 => fX11_box_L54 w (puI x) (puI y) (puI a) (puI b) s14.1 s14.2.1 s14.2.2.1 s14.2.2.2.1 s14.2.2.2.2.1 s14.2.2.2.2.2.1 s14.2.2.2.2.2.2.1 s14.2.2.2.2.2.2.2) ((0 : Int32), (0 : Int32), one, two, sh, x0, y0, d0)) (fun r => puSt r.1 (fun s => s < n ∧ bx (G s) x y a b)) := by
  have hn := hv.1
  refine puFor1 n (fun m z => z.2.1 = puI (m : Int) ∧ puSt z.1 (fun s => s < m ∧ bx (G s) x y a b)) _ ⟨rfl, puSt_start⟩ ?_ ?_
  · rintro m ⟨y6, y7, one, two, sh, x0, y0, d0⟩ hm ⟨q1, h⟩
    simp only at q1 h
    subst q1
    have v := hv.2 m hm
    obtain ⟨h1, h2, -, -, -⟩ := hw.2 m hm
    obtain ⟨⟨b1, b2, -, -⟩, -, -⟩ := id v
    have hx' := hx; have hy' := hy; have ha' := ha; have hb' := hb
    unfold puInC at hx' hy' ha' hb'
    have ei : xsBd (fX11_in ((w (1 + 5 * m)).toInt64) ((puI x).toInt64) ((puI a).toInt64)) (fun o26 => xsBd (xsBr (o26 = 0) (some (0 : Int32)) (xsBd (fX11_of w (puI (m : Int)) (1 : Int32)) (fun o62 => xsBd (fX11_in o62.toInt64 ((puI y).toInt64) ((puI b).toInt64)) (fun o64 => xsBr (o64 = 0) (some (0 : Int32)) (some (1 : Int32)))))) (fun v59 => some v59)) = some (puB ((x ≤ (G m).1 ∧ (G m).1 ≤ a) ∧ y ≤ (G m).2.1 ∧ (G m).2.1 ≤ b)) := by
      rw [h1, puI_l (by omega) (by omega), puI_l (by omega) (by omega), puI_l (by omega) (by omega), p_in (by omega) (by omega) (by omega), xsBd_sm, p_of1 (by omega), xsBd_sm, h2, puI_l (by omega) (by omega), puI_l (by omega) (by omega), puI_l (by omega) (by omega), p_in (by omega) (by omega) (by omega), xsBd_sm]
      by_cases c1 : x ≤ (G m).1 ∧ (G m).1 ≤ a
      · rw [pu_bt c1]
        by_cases c2 : y ≤ (G m).2.1 ∧ (G m).2.1 ≤ b
        · rw [pu_bt c2, xsBd_sm, puB_pos ⟨c1, c2⟩]
        · rw [pu_bf c2, xsBd_sm, puB_neg (fun z => c2 z.2)]
      · rw [pu_bf c1, xsBd_sm, puB_neg (fun z => c1 z.1)]
    have mo := bx_model v hx hy ha hb hxa hyb
    have fin : ∀ (c : Prop) (one two sh : Nat → Int32) (x0 y0 d0 : Int64), (c ↔ bx (G m) x y a b) → ∃ s', fX11_box_J173 y6 (puI (m : Int)) (puB c) one two sh x0 y0 d0 = some (.inl s') ∧ s'.2.1 = puI ((m + 1 : Nat) : Int) ∧ puSt s'.1 (fun s => s < m + 1 ∧ bx (G s) x y a b) := by
      intro c one two sh x0 y0 d0 hc
      unfold fX11_box_J173
      by_cases z : c
      · rw [pu_bt z, xsBd_sm]
        unfold fX11_box_J190
        rw [xsLt_eq, xsLt_eq, puI_s1]
        exact ⟨_, rfl, rfl, puSt_put (by omega) h (hc.mp z)⟩
      · rw [pu_bf z, xsBd_sm]
        unfold fX11_box_J190
        rw [xsLt_eq, xsLt_eq, puI_s1]
        exact ⟨_, rfl, rfl, puSt_pass0 h (fun q => z (hc.mpr q))⟩
    simp only [fX11_box_L54]
    rw [p_many hw, xsBd_sm, pu_go hm (by omega), p_of0 (by omega), xsBd_sm]
    -- the two texts of 'is' are one
    have ej : xsBd (fX11_in ((w (1 + 5 * m)).toInt64) ((puI x).toInt64) ((puI a).toInt64)) (fun o26 => xsBd (xsBr (o26 = 0) (some (0 : Int32)) (xsBd (fX11_of w (puI (m : Int)) (1 : Int32)) (fun o62 => xsBd (fX11_in o62.toInt64 ((puI y).toInt64) ((puI b).toInt64)) (fun o64 => xsBr (o64 = 0) (some (0 : Int32)) (some (1 : Int32)))))) (fun v59 => fX11_box_J105 w (puI x) (puI y) (puI a) (puI b) y6 (puI (m : Int)) one two sh x0 y0 d0 v59)) = fX11_box_J105 w (puI x) (puI y) (puI a) (puI b) y6 (puI (m : Int)) one two sh x0 y0 d0 (puB ((x ≤ (G m).1 ∧ (G m).1 ≤ a) ∧ y ≤ (G m).2.1 ∧ (G m).2.1 ≤ b)) := by
      rw [h1, puI_l (by omega) (by omega), puI_l (by omega) (by omega), puI_l (by omega) (by omega), p_in (by omega) (by omega) (by omega), xsBd_sm, p_of1 (by omega), xsBd_sm, h2, puI_l (by omega) (by omega), puI_l (by omega) (by omega), puI_l (by omega) (by omega), p_in (by omega) (by omega) (by omega), xsBd_sm]
      by_cases c1 : x ≤ (G m).1 ∧ (G m).1 ≤ a
      · rw [pu_bt c1]
        by_cases c2 : y ≤ (G m).2.1 ∧ (G m).2.1 ≤ b
        · rw [pu_bt c2, xsBd_sm, puB_pos ⟨c1, c2⟩]
        · rw [pu_bf c2, xsBd_sm, puB_neg (fun z => c2 z.2)]
      · rw [pu_bf c1, xsBd_sm, puB_neg (fun z => c1 z.1)]
    rw [ej]
    unfold fX11_box_J105
    have one1 : (1 : Int32) = puB True := (puB_pos trivial).symm
    have zero1 : (0 : Int32) = puB False := (puB_neg (fun z => z)).symm
    by_cases c0 : (x ≤ (G m).1 ∧ (G m).1 ≤ a) ∧ y ≤ (G m).2.1 ∧ (G m).2.1 ≤ b
    · rw [pu_bt c0, xsBd_sm]
      dsimp only
      rw [one1]
      exact fin True _ _ _ _ _ _ ⟨fun _ => mo.mp (Or.inl (Or.inl (Or.inl c0))), fun _ => trivial⟩
    rw [pu_bf c0]
    obtain ⟨r1, e1, k1⟩ := p_hits hv hw hm hx hy ha hy (one := one) (two := two) (sh := sh) (x0 := x0) (y0 := y0) (d0 := d0)
    rw [xsBd_some e1, k1]
    by_cases c1 : bx_t (G m) (ch_o x y a y 0)
    · rw [pu_bt c1, xsBd_sm]
      dsimp only
      rw [one1]
      exact fin True _ _ _ _ _ _ ⟨fun _ => mo.mp (Or.inl (Or.inl (Or.inr c1))), fun _ => trivial⟩
    rw [pu_bf c1]
    obtain ⟨r2, e2, k2⟩ := p_hits hv hw hm hx hb ha hb (one := r1.2.1) (two := r1.2.2.1) (sh := r1.2.2.2.1) (x0 := r1.2.2.2.2.1) (y0 := r1.2.2.2.2.2.1) (d0 := r1.2.2.2.2.2.2)
    rw [xsBd_some e2, k2]
    by_cases c2 : bx_t (G m) (ch_o x b a b 0)
    · rw [pu_bt c2, xsBd_sm]
      dsimp only
      rw [one1]
      exact fin True _ _ _ _ _ _ ⟨fun _ => mo.mp (Or.inl (Or.inr c2)), fun _ => trivial⟩
    rw [pu_bf c2]
    obtain ⟨r3, e3, k3⟩ := p_hits hv hw hm hx hy hx hb (one := r2.2.1) (two := r2.2.2.1) (sh := r2.2.2.2.1) (x0 := r2.2.2.2.2.1) (y0 := r2.2.2.2.2.2.1) (d0 := r2.2.2.2.2.2.2)
    rw [xsBd_some e3, k3]
    by_cases c3 : bx_t (G m) (ch_o x y x b 0)
    · rw [pu_bt c3, xsBd_sm]
      dsimp only
      rw [one1]
      exact fin True _ _ _ _ _ _ ⟨fun _ => mo.mp (Or.inr (Or.inl c3)), fun _ => trivial⟩
    rw [pu_bf c3]
    obtain ⟨r4, e4, k4⟩ := p_hits hv hw hm ha hy ha hb (one := r3.2.1) (two := r3.2.2.1) (sh := r3.2.2.2.1) (x0 := r3.2.2.2.2.1) (y0 := r3.2.2.2.2.2.1) (d0 := r3.2.2.2.2.2.2)
    rw [xsBd_some e4, k4]
    by_cases c4 : bx_t (G m) (ch_o a y a b 0)
    · rw [pu_bt c4, xsBd_sm]
      dsimp only
      rw [one1]
      exact fin True _ _ _ _ _ _ ⟨fun _ => mo.mp (Or.inr (Or.inr c4)), fun _ => trivial⟩
    rw [pu_bf c4, xsBd_sm]
    dsimp only
    rw [zero1]
    exact fin False _ _ _ _ _ _ ⟨fun z => z.elim, fun z => by
      rcases mo.mpr z with ((q | q) | q) | q | q
      · exact c0 q
      · exact c1 q
      · exact c2 q
      · exact c3 q
      · exact c4 q⟩
  · rintro ⟨y6, y7, one, two, sh, x0, y0, d0⟩ ⟨q1, h⟩
    simp only at q1 h
    subst q1
    simp only [fX11_box_L54]
    rw [p_many hw, xsBd_sm, pu_out (by omega)]
    exact ⟨_, rfl, h⟩
theorem q_box : pc_box puRl := by
  intro kIsKept kIsStale hiLatest hiSize scLength scFault scAt scNumber piSegmentsNow enKind enFromX enFromY enToX enToY tiMeetingPairs tiAlongPairs tiSize evSize evCrossings evSegmentsNow grEdges grQueued huSize huBestX huBestY scBytes scTold tiTouching tiLyingAlong evBundle evCrossingOf evEventOf evLeftEvent evRightEvent grDegree grFar grQueue huX huY enX enY enLower evX evY evLower S mThrown mRemembered mHasImage mIsLaid mEvents mCrossings mEdges mTaped mPoint mEnd mBegin mFaultAt mActs mWorld mImage mDraft mEarlier mOne mTwo mShare mCrossingOf mBundle mEventOf mDegree mFrom mTo mMet mTape mFive mTold mFar mViews mHullX mHullY mEndX mEndY mMeets mMeetsOf mX mY mD mHeightUp mHeightLow mEventX mEventY mEventD mUpper mLower hR a0 a1 a2 a3
  obtain ⟨n, G, rw, ri, rh, rt, rk, rm⟩ := hR
  obtain ⟨x, rfl, x1, x2⟩ := puI_ex a0
  obtain ⟨y, rfl, y1, y2⟩ := puI_ex a1
  obtain ⟨a, rfl, b1, b2⟩ := puI_ex a2
  obtain ⟨b, rfl, b3, b4⟩ := puI_ex a3
  obtain ⟨w1, w2, w3⟩ := id rw
  unfold fX10_box fX11_box
  rw [w2.2.2, p_checkPoint x1 x2 y1 y2, p_isPlace x1 x2 y1 y2, p_isPlace b1 b2 b3 b4, xsBd_sm, xsBd_sm]
  have ec : xsBr (puB (puInC x ∧ puInC y) = 0) (some (1 : Int32)) (xsBd (some (puB (puInC a ∧ puInC b))) (fun o73 => xsBr (o73 = 0) (some (1 : Int32)) (xsBr (puI a < puI x) (some (1 : Int32)) (xsBr (puI y ≤ puI b) (some (0 : Int32)) (some (1 : Int32)))))) = some (puB (¬ ((puInC x ∧ puInC y) ∧ (puInC a ∧ puInC b) ∧ x ≤ a ∧ y ≤ b))) := by
    rw [xsBd_sm, xsBr_iff (puI_lt (a := a) (b := x) b1 b2 x1 x2), xsBr_iff (puI_le (a := y) (b := b) y1 y2 b3 b4)]
    by_cases c : puInC x ∧ puInC y
    · rw [pu_bt c]
      by_cases d : puInC a ∧ puInC b
      · rw [pu_bt d]
        by_cases e : a < x
        · rw [xsBr_pos e, puB_pos (fun q => by have := q.2.2.1; omega)]
        · rw [xsBr_neg e]
          by_cases f : y ≤ b
          · rw [xsBr_pos f, puB_neg (fun q => q ⟨c, d, by omega, f⟩)]
          · rw [xsBr_neg f, puB_pos (fun q => f q.2.2.2)]
      · rw [pu_bf d, puB_pos (fun q => d q.2.1)]
    · rw [pu_bf c, puB_pos (fun q => c q.1)]
  rw [ec, xsBd_sm]
  unfold fX11_box_J39
  rw [p_throwsIf, xsBd_sm]
  by_cases c : puInC x ∧ puInC y
  case neg =>
    have c' : ¬ ((puInC x ∧ puInC y) ∧ (puInC a ∧ puInC b) ∧ x ≤ a ∧ y ≤ b) := fun q => c q.1
    rw [puCk_neg c, puB_pos c', puE_pos c']
    simp only [xsTh]
    rw [xsBr_neg (by decide)]
    exact ⟨_, _, rfl, rfl, Or.inr ⟨_, _, rfl, rfl, rfl, n, G, rw, ri, rh, rt, rk, rm⟩⟩
  rw [puCk_pos c]
  simp only [xsTh]
  rw [p_checkPoint b1 b2 b3 b4, xsBd_sm]
  by_cases d : puInC a ∧ puInC b
  case neg =>
    have c' : ¬ ((puInC x ∧ puInC y) ∧ (puInC a ∧ puInC b) ∧ x ≤ a ∧ y ≤ b) := fun q => d q.2.1
    rw [puCk_neg d, puB_pos c', puE_pos c']
    simp only [xsTh]
    rw [xsBr_neg (by decide)]
    exact ⟨_, _, rfl, rfl, Or.inr ⟨_, _, rfl, rfl, rfl, n, G, rw, ri, rh, rt, rk, rm⟩⟩
  rw [puCk_pos d]
  simp only [xsTh]
  rw [xsBr_iff (puI_lt (a := a) (b := x) b1 b2 x1 x2), xsBr_iff (puI_le (a := y) (b := b) y1 y2 b3 b4)]
  by_cases e : a < x
  · have c' : ¬ ((puInC x ∧ puInC y) ∧ (puInC a ∧ puInC b) ∧ x ≤ a ∧ y ≤ b) := fun q => by have := q.2.2.1; omega
    rw [xsBr_pos e, puB_pos c', puE_pos c']
    rw [xsBr_neg (by decide)]
    exact ⟨_, _, rfl, rfl, Or.inr ⟨_, _, rfl, rfl, rfl, n, G, rw, ri, rh, rt, rk, rm⟩⟩
  rw [xsBr_neg e]
  by_cases f : y ≤ b
  case neg =>
    have c' : ¬ ((puInC x ∧ puInC y) ∧ (puInC a ∧ puInC b) ∧ x ≤ a ∧ y ≤ b) := fun q => f q.2.2.2
    rw [xsBr_neg f, puB_pos c', puE_pos c']
    rw [xsBr_neg (by decide)]
    exact ⟨_, _, rfl, rfl, Or.inr ⟨_, _, rfl, rfl, rfl, n, G, rw, ri, rh, rt, rk, rm⟩⟩
  have c' : ¬ ¬ ((puInC x ∧ puInC y) ∧ (puInC a ∧ puInC b) ∧ x ≤ a ∧ y ≤ b) := fun q => q ⟨c, d, by omega, f⟩
  obtain ⟨r, er, hr⟩ := p_box39 w1 w2.1 c.1 c.2 d.1 d.2 (show x ≤ a by omega) f
  obtain ⟨r2, er2, hr2⟩ := p_mbox54 w1 w3 c.1 c.2 d.1 d.2 (show x ≤ a by omega) f (one := mOne) (two := mTwo) (sh := mShare) (x0 := mX) (y0 := mY) (d0 := mD)
  rw [xsBr_pos f, puB_neg c', puE_neg c', xsBd_some er, xsBr_pos rfl, xsBd_some er2]
  simp only [fX10_box_J83, fX11_box_J199]
  exact ⟨_, _, rfl, rfl, Or.inl ⟨_, rfl, puSt_eq hr hr2, rfl, n, G, rw, ri, rh, rt, rk, rm⟩⟩

