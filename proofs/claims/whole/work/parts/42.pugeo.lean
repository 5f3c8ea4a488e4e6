/-! PURE: points are pairs of fractions; stretches; how two meet -/
abbrev puP : Type := Rat × Rat
def puLt (p q : puP) : Prop := p.1 < q.1 ∨ (p.1 = q.1 ∧ p.2 < q.2)
def puLe (p q : puP) : Prop := p.1 < q.1 ∨ (p.1 = q.1 ∧ p.2 ≤ q.2)
theorem puLe_iff {p q : puP} : puLe p q ↔ puLt p q ∨ p = q := by
  obtain ⟨a, b⟩ := p; obtain ⟨c, d⟩ := q
  simp only [puLe, puLt, Prod.mk.injEq]; grind
theorem puLe_not {p q : puP} : ¬ puLt p q ↔ puLe q p := by
  obtain ⟨a, b⟩ := p; obtain ⟨c, d⟩ := q
  simp only [puLe, puLt]; grind
theorem puLt_not {p q : puP} : ¬ puLe p q ↔ puLt q p := by
  obtain ⟨a, b⟩ := p; obtain ⟨c, d⟩ := q
  simp only [puLe, puLt]; grind
theorem puLt_irr {p : puP} : ¬ puLt p p := by
  obtain ⟨a, b⟩ := p; simp only [puLt]; grind
theorem puLt_tr {p q r : puP} (h : puLt p q) (h2 : puLt q r) : puLt p r := by
  obtain ⟨a, b⟩ := p; obtain ⟨c, d⟩ := q; obtain ⟨e, f⟩ := r
  simp only [puLt] at *; grind
theorem puLe_tr {p q r : puP} (h : puLe p q) (h2 : puLe q r) : puLe p r := by
  obtain ⟨a, b⟩ := p; obtain ⟨c, d⟩ := q; obtain ⟨e, f⟩ := r
  simp only [puLe] at *; grind
theorem puLtLe_tr {p q r : puP} (h : puLt p q) (h2 : puLe q r) : puLt p r := by
  obtain ⟨a, b⟩ := p; obtain ⟨c, d⟩ := q; obtain ⟨e, f⟩ := r
  simp only [puLe, puLt] at *; grind
theorem puLeLt_tr {p q r : puP} (h : puLe p q) (h2 : puLt q r) : puLt p r := by
  obtain ⟨a, b⟩ := p; obtain ⟨c, d⟩ := q; obtain ⟨e, f⟩ := r
  simp only [puLe, puLt] at *; grind
theorem puLe_rf {p : puP} : puLe p p := Or.inr ⟨rfl, Rat.le_refl⟩
theorem puLe_of {p q : puP} (h : puLt p q) : puLe p q := puLe_iff.mpr (Or.inl h)
theorem puLe_as {p q : puP} (h : puLe p q) (h2 : puLe q p) : p = q := by
  rcases puLe_iff.mp h with h | h
  · exact absurd (puLtLe_tr h h2) puLt_irr
  · exact h
theorem puLt_tri (p q : puP) : puLt p q ∨ p = q ∨ puLt q p := by
  by_cases h : puLt p q
  · exact Or.inl h
  · rcases puLe_iff.mp (puLe_not.mp h) with h | h
    · exact Or.inr (Or.inr h)
    · exact Or.inr (Or.inl h.symm)
/-- a stretch: where it begins, how far it goes on, to the right (or up) -/
theorem pg_on {lx ly w r x y : Rat} (hd : 0 < w ∨ (w = 0 ∧ 0 ≤ r)) : (∃ t : Rat, 0 ≤ t ∧ t ≤ 1 ∧ x = lx + t * w ∧ y = ly + t * r) ↔ ((x - lx) * r = (y - ly) * w ∧ puLe (lx, ly) (x, y) ∧ puLe (x, y) (lx + w, ly + r)) := by
  constructor
  · rintro ⟨t, h0, h1, rfl, rfl⟩
    refine ⟨by grind, ?_, ?_⟩
    · simp only [puLe]
      rcases hd with h | ⟨h, h'⟩
      · by_cases e : t = 0
        · subst e; right; grind
        · left; have : 0 < t * w := Rat.mul_pos (by grind) h; grind
      · subst h; right; have := Rat.mul_nonneg h0 h'; grind
    · simp only [puLe]
      rcases hd with h | ⟨h, h'⟩
      · by_cases e : t = 1
        · subst e; right; grind
        · left; have : 0 < (1 - t) * w := Rat.mul_pos (by grind) h; grind
      · subst h; right; have := Rat.mul_nonneg (a := 1 - t) (by grind) h'; grind
  · rintro ⟨h1, h2, h3⟩
    simp only [puLe] at h2 h3
    rcases hd with h | ⟨h, h'⟩
    · have hw : w ≠ 0 := by grind
      obtain ⟨t, ht⟩ : ∃ t : Rat, t * w = x - lx := ⟨(x - lx) / w, Rat.div_mul_cancel hw⟩
      have e1 : (t * r - (y - ly)) * w = 0 := by grind
      have e2 : t * r - (y - ly) = 0 := (Rat.mul_eq_zero.mp e1).resolve_right hw
      refine ⟨t, Rat.le_of_mul_le_mul_right (c := w) (by grind) h, Rat.le_of_mul_le_mul_right (c := w) (by grind) h, by grind, by grind⟩
    · subst h
      by_cases hr : r = 0
      · refine ⟨0, by grind, by grind, by grind, by grind⟩
      · have hp : 0 < r := by grind
        obtain ⟨t, ht⟩ : ∃ t : Rat, t * r = y - ly := ⟨(y - ly) / r, Rat.div_mul_cancel hr⟩
        refine ⟨t, Rat.le_of_mul_le_mul_right (c := r) (by grind) hp, Rat.le_of_mul_le_mul_right (c := r) (by grind) hp, by grind, by grind⟩
theorem pg_cross {lx ly w r mx my v s t u : Rat} (e1 : lx + t * w = mx + u * v) (e2 : ly + t * r = my + u * s) : t * (w * s - r * v) = (mx - lx) * s - (my - ly) * v ∧ u * (w * s - r * v) = (mx - lx) * r - (my - ly) * w := by
  constructor <;> grind
theorem pg_cross_back {lx ly w r mx my v s t u : Rat} (hD : w * s - r * v ≠ 0) (e1 : t * (w * s - r * v) = (mx - lx) * s - (my - ly) * v) (e2 : u * (w * s - r * v) = (mx - lx) * r - (my - ly) * w) : lx + t * w = mx + u * v ∧ ly + t * r = my + u * s := by
  have a1 : (lx + t * w - (mx + u * v)) * (w * s - r * v) = 0 := by grind
  have a2 : (ly + t * r - (my + u * s)) * (w * s - r * v) = 0 := by grind
  have b1 := (Rat.mul_eq_zero.mp a1).resolve_right hD
  have b2 := (Rat.mul_eq_zero.mp a2).resolve_right hD
  constructor <;> grind
/-- a SEGMENT: X, Y of LEFT, of RIGHT, its TINT -/
abbrev puS : Type := Int × Int × Int × Int × Int
def puA (a : puS) : puP := ((a.1 : Rat), (a.2.1 : Rat))
def puZ (a : puS) : puP := ((a.2.2.1 : Rat), (a.2.2.2.1 : Rat))
def puW (a : puS) : Int := a.2.2.1 - a.1
def puH (a : puS) : Int := a.2.2.2.1 - a.2.1
def puOn (a : puS) (p : puP) : Prop := (p.1 - (a.1 : Rat)) * (puH a : Rat) = (p.2 - (a.2.1 : Rat)) * (puW a : Rat) ∧ puLe (puA a) p ∧ puLe p (puZ a)
/-- in its bounds -/
def puV (a : puS) : Prop := ((-999 ≤ a.1 ∧ a.1 ≤ 999) ∧ (-999 ≤ a.2.1 ∧ a.2.1 ≤ 999) ∧ (-999 ≤ a.2.2.1 ∧ a.2.2.1 ≤ 999) ∧ (-999 ≤ a.2.2.2.1 ∧ a.2.2.2.1 ≤ 999)) ∧ (0 ≤ a.2.2.2.2 ∧ a.2.2.2.2 ≤ 3) ∧ (0 < puW a ∨ (puW a = 0 ∧ 0 ≤ puH a))
theorem puWq (a : puS) : (a.2.2.1 : Rat) = (a.1 : Rat) + (puW a : Rat) := by unfold puW; rw [Rat.intCast_sub]; grind
theorem puHq (a : puS) : (a.2.2.2.1 : Rat) = (a.2.1 : Rat) + (puH a : Rat) := by unfold puH; rw [Rat.intCast_sub]; grind
theorem puV_d {a : puS} (h : puV a) : 0 < (puW a : Rat) ∨ ((puW a : Rat) = 0 ∧ 0 ≤ (puH a : Rat)) := by
  rcases h.2.2 with h | ⟨h, h2⟩
  · exact Or.inl (Rat.intCast_pos.mpr h)
  · exact Or.inr ⟨by rw [h]; rfl, Rat.intCast_nonneg.mpr h2⟩
theorem puOn_t {a : puS} (h : puV a) {p : puP} : puOn a p ↔ ∃ t : Rat, 0 ≤ t ∧ t ≤ 1 ∧ p.1 = (a.1 : Rat) + t * (puW a : Rat) ∧ p.2 = (a.2.1 : Rat) + t * (puH a : Rat) := by
  have g := pg_on (lx := (a.1 : Rat)) (ly := (a.2.1 : Rat)) (x := p.1) (y := p.2) (puV_d h)
  rw [g]
  unfold puOn puA puZ
  rw [puWq a, puHq a]
theorem puOn_A {a : puS} (h : puV a) : puOn a (puA a) := (puOn_t h).mpr ⟨0, Rat.le_refl, by decide, by unfold puA; grind, by unfold puA; grind⟩
theorem puOn_Z {a : puS} (h : puV a) : puOn a (puZ a) := (puOn_t h).mpr ⟨1, by decide, Rat.le_refl, by unfold puZ; rw [puWq a]; grind, by unfold puZ; rw [puHq a]; grind⟩
