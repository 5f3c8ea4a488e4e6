/-! PURE: how two stretches meet, in whole numbers, and what that says of their points -/
def puGX (a b : puS) : Int := b.1 - a.1
def puGY (a b : puS) : Int := b.2.1 - a.2.1
def puD (a b : puS) : Int := puW a * puH b - puH a * puW b
def puT (a b : puS) : Int := puGX a b * puH b - puGY a b * puW b
def puU (a b : puS) : Int := puGX a b * puH a - puGY a b * puW a
def puIn (a b : puS) : Prop := (0 < puD a b ∧ 0 ≤ puT a b ∧ puT a b ≤ puD a b ∧ 0 ≤ puU a b ∧ puU a b ≤ puD a b) ∨ (puD a b < 0 ∧ puT a b ≤ 0 ∧ puD a b ≤ puT a b ∧ puU a b ≤ 0 ∧ puD a b ≤ puU a b)
def puIl (a b : puS) : Prop := puGX a b * puH a = puGY a b * puW a ∧ puGX a b * puH b = puGY a b * puW b
def puLi (p q : Int × Int) : Prop := p.1 < q.1 ∨ (p.1 = q.1 ∧ p.2 < q.2)
def puAi (a : puS) : Int × Int := (a.1, a.2.1)
def puZi (a : puS) : Int × Int := (a.2.2.1, a.2.2.2.1)
noncomputable def puFr (a b : puS) : Int × Int := puE (puLi (puAi a) (puAi b)) (puAi b) (puAi a)
noncomputable def puTo (a b : puS) : Int × Int := puE (puLi (puZi b) (puZi a)) (puZi b) (puZi a)
def puC (p : Int × Int) : puP := ((p.1 : Rat), (p.2 : Rat))
noncomputable def puKd (a b : puS) : Nat := puE (puD a b = 0) (puE (puIl a b) (puE (puFr a b = puTo a b) 1 (puE (puLi (puFr a b) (puTo a b)) 2 0)) 0) (puE (puIn a b) 1 0)
noncomputable def puMp (a b : puS) : puP := puE (puD a b = 0) (puC (puFr a b)) ((a.1 : Rat) + (puT a b : Rat) / (puD a b : Rat) * (puW a : Rat), (a.2.1 : Rat) + (puT a b : Rat) / (puD a b : Rat) * (puH a : Rat))
theorem puLi_c {p q : Int × Int} : puLi p q ↔ puLt (puC p) (puC q) := by
  unfold puLi puLt puC
  simp only [Rat.intCast_lt_intCast, Rat.intCast_inj]
theorem puC_inj {p q : Int × Int} : puC p = puC q ↔ p = q := by
  obtain ⟨a, b⟩ := p; obtain ⟨c, d⟩ := q
  unfold puC
  simp only [Prod.mk.injEq, Rat.intCast_inj]
theorem puDq (a b : puS) : (puD a b : Rat) = (puW a : Rat) * (puH b : Rat) - (puH a : Rat) * (puW b : Rat) := by unfold puD; rw [Rat.intCast_sub, Rat.intCast_mul, Rat.intCast_mul]
theorem puTq (a b : puS) : (puT a b : Rat) = ((b.1 : Rat) - (a.1 : Rat)) * (puH b : Rat) - ((b.2.1 : Rat) - (a.2.1 : Rat)) * (puW b : Rat) := by unfold puT puGX puGY; rw [Rat.intCast_sub, Rat.intCast_mul, Rat.intCast_mul, Rat.intCast_sub, Rat.intCast_sub]
theorem puUq (a b : puS) : (puU a b : Rat) = ((b.1 : Rat) - (a.1 : Rat)) * (puH a : Rat) - ((b.2.1 : Rat) - (a.2.1 : Rat)) * (puW a : Rat) := by unfold puU puGX puGY; rw [Rat.intCast_sub, Rat.intCast_mul, Rat.intCast_mul, Rat.intCast_sub, Rat.intCast_sub]
theorem puKd_le (a b : puS) : puKd a b ≤ 2 := by
  unfold puKd
  by_cases h1 : puD a b = 0
  · rw [puE_pos h1]
    by_cases h2 : puIl a b
    · rw [puE_pos h2]
      by_cases h3 : puFr a b = puTo a b
      · rw [puE_pos h3]; decide
      · rw [puE_neg h3]
        by_cases h4 : puLi (puFr a b) (puTo a b)
        · rw [puE_pos h4]; decide
        · rw [puE_neg h4]; decide
    · rw [puE_neg h2]; decide
  · rw [puE_neg h1]
    by_cases h2 : puIn a b
    · rw [puE_pos h2]; decide
    · rw [puE_neg h2]; decide
/-- two that both have a point: its places on both -/
theorem puTU {a b : puS} (va : puV a) (vb : puV b) {p : puP} (h1 : puOn a p) (h2 : puOn b p) : ∃ t u : Rat, (0 ≤ t ∧ t ≤ 1) ∧ (0 ≤ u ∧ u ≤ 1) ∧ (p.1 = (a.1 : Rat) + t * (puW a : Rat) ∧ p.2 = (a.2.1 : Rat) + t * (puH a : Rat)) ∧ t * (puD a b : Rat) = (puT a b : Rat) ∧ u * (puD a b : Rat) = (puU a b : Rat) := by
  obtain ⟨t, t0, t1, e1, e2⟩ := (puOn_t va).mp h1
  obtain ⟨u, u0, u1, e3, e4⟩ := (puOn_t vb).mp h2
  obtain ⟨g1, g2⟩ := pg_cross (e1.symm.trans e3) (e2.symm.trans e4)
  refine ⟨t, u, ⟨t0, t1⟩, ⟨u0, u1⟩, ⟨e1, e2⟩, ?_, ?_⟩
  · rw [puDq, puTq]; exact g1
  · rw [puDq, puUq]; exact g2
theorem pg_sgn {t : Rat} {T D : Int} (h : t * (D : Rat) = (T : Rat)) (h0 : 0 ≤ t) (h1 : t ≤ 1) : (0 < D → 0 ≤ T ∧ T ≤ D) ∧ (D < 0 → T ≤ 0 ∧ D ≤ T) := by
  constructor
  · intro hD
    have hd : 0 < (D : Rat) := Rat.intCast_pos.mpr hD
    have a1 := Rat.mul_nonneg h0 (Rat.le_of_lt hd)
    have a2 := Rat.mul_nonneg (a := 1 - t) (b := (D : Rat)) (by grind) (Rat.le_of_lt hd)
    exact ⟨Rat.intCast_nonneg.mp (by grind), Rat.intCast_le_intCast.mp (by grind)⟩
  · intro hD
    have hd : (D : Rat) < 0 := Rat.intCast_neg_iff.mpr hD
    have a1 := Rat.mul_nonneg (a := t) (b := -(D : Rat)) h0 (by grind)
    have a2 := Rat.mul_nonneg (a := 1 - t) (b := -(D : Rat)) (by grind) (by grind)
    exact ⟨Rat.intCast_nonpos.mp (by grind), Rat.intCast_le_intCast.mp (by grind)⟩
theorem pg_back {T D : Int} (hD : D ≠ 0) (h : (0 < D ∧ 0 ≤ T ∧ T ≤ D) ∨ (D < 0 ∧ T ≤ 0 ∧ D ≤ T)) : 0 ≤ (T : Rat) / (D : Rat) ∧ (T : Rat) / (D : Rat) ≤ 1 ∧ (T : Rat) / (D : Rat) * (D : Rat) = (T : Rat) := by
  have hd : (D : Rat) ≠ 0 := fun q => hD (Rat.intCast_eq_zero_iff.mp q)
  have e : (T : Rat) / (D : Rat) * (D : Rat) = (T : Rat) := Rat.div_mul_cancel hd
  generalize (T : Rat) / (D : Rat) = t at e
  rcases h with ⟨h1, h2, h3⟩ | ⟨h1, h2, h3⟩
  · have k1 : 0 < (D : Rat) := Rat.intCast_pos.mpr h1
    have k2 : 0 ≤ (T : Rat) := Rat.intCast_nonneg.mpr h2
    have k3 : (T : Rat) ≤ (D : Rat) := Rat.intCast_le_intCast.mpr h3
    exact ⟨Rat.le_of_mul_le_mul_right (c := (D : Rat)) (by grind) k1, Rat.le_of_mul_le_mul_right (c := (D : Rat)) (by grind) k1, e⟩
  · have k1 : 0 < -(D : Rat) := by have := Rat.intCast_neg_iff.mpr h1; grind
    have k2 : (T : Rat) ≤ 0 := Rat.intCast_nonpos.mpr h2
    have k3 : (D : Rat) ≤ (T : Rat) := Rat.intCast_le_intCast.mpr h3
    exact ⟨Rat.le_of_mul_le_mul_right (c := -(D : Rat)) (by grind) k1, Rat.le_of_mul_le_mul_right (c := -(D : Rat)) (by grind) k1, e⟩
theorem puIn_of {a b : puS} (va : puV a) (vb : puV b) (hD : puD a b ≠ 0) {p : puP} (h1 : puOn a p) (h2 : puOn b p) : puIn a b ∧ p = puMp a b := by
  obtain ⟨t, u, ⟨t0, t1⟩, ⟨u0, u1⟩, ⟨e1, e2⟩, e3, e4⟩ := puTU va vb h1 h2
  have g1 := pg_sgn e3 t0 t1
  have g2 := pg_sgn e4 u0 u1
  refine ⟨?_, ?_⟩
  · rcases Int.lt_trichotomy (puD a b) 0 with h | h | h
    · exact Or.inr ⟨h, (g1.2 h).1, (g1.2 h).2, (g2.2 h).1, (g2.2 h).2⟩
    · exact absurd h hD
    · exact Or.inl ⟨h, (g1.1 h).1, (g1.1 h).2, (g2.1 h).1, (g2.1 h).2⟩
  · have hd : (puD a b : Rat) ≠ 0 := fun q => hD (Rat.intCast_eq_zero_iff.mp q)
    have e5 : (puT a b : Rat) / (puD a b : Rat) = t := by rw [← e3]; exact Rat.mul_div_cancel hd
    unfold puMp
    rw [puE_neg hD, e5, ← e1, ← e2]
theorem puIn_on {a b : puS} (va : puV a) (vb : puV b) (hD : puD a b ≠ 0) (h : puIn a b) : puOn a (puMp a b) ∧ puOn b (puMp a b) := by
  have h1 : (0 < puD a b ∧ 0 ≤ puT a b ∧ puT a b ≤ puD a b) ∨ (puD a b < 0 ∧ puT a b ≤ 0 ∧ puD a b ≤ puT a b) := by
    rcases h with ⟨h1, h2, h3, _, _⟩ | ⟨h1, h2, h3, _, _⟩
    · exact Or.inl ⟨h1, h2, h3⟩
    · exact Or.inr ⟨h1, h2, h3⟩
  have h2 : (0 < puD a b ∧ 0 ≤ puU a b ∧ puU a b ≤ puD a b) ∨ (puD a b < 0 ∧ puU a b ≤ 0 ∧ puD a b ≤ puU a b) := by
    rcases h with ⟨h1, _, _, h2, h3⟩ | ⟨h1, _, _, h2, h3⟩
    · exact Or.inl ⟨h1, h2, h3⟩
    · exact Or.inr ⟨h1, h2, h3⟩
  obtain ⟨t0, t1, te⟩ := pg_back hD h1
  obtain ⟨u0, u1, ue⟩ := pg_back hD h2
  have hd : (puD a b : Rat) ≠ 0 := fun q => hD (Rat.intCast_eq_zero_iff.mp q)
  have hm : puMp a b = ((a.1 : Rat) + (puT a b : Rat) / (puD a b : Rat) * (puW a : Rat), (a.2.1 : Rat) + (puT a b : Rat) / (puD a b : Rat) * (puH a : Rat)) := by unfold puMp; rw [puE_neg hD]
  rw [hm]
  generalize (puT a b : Rat) / (puD a b : Rat) = t at t0 t1 te
  generalize (puU a b : Rat) / (puD a b : Rat) = u at u0 u1 ue
  rw [puDq, puTq] at te
  rw [puDq, puUq] at ue
  rw [puDq] at hd
  obtain ⟨k1, k2⟩ := pg_cross_back hd te ue
  exact ⟨(puOn_t va).mpr ⟨t, t0, t1, rfl, rfl⟩, (puOn_t vb).mpr ⟨u, u0, u1, k1, k2⟩⟩
theorem puIl_of {a b : puS} (va : puV a) (vb : puV b) (hD : puD a b = 0) {p : puP} (h1 : puOn a p) (h2 : puOn b p) : puIl a b := by
  obtain ⟨t, u, -, -, -, e3, e4⟩ := puTU va vb h1 h2
  have z : (puD a b : Rat) = 0 := by rw [hD]; rfl
  rw [z, Rat.mul_zero] at e3 e4
  have t0 : puT a b = 0 := Rat.intCast_eq_zero_iff.mp e3.symm
  have u0 : puU a b = 0 := Rat.intCast_eq_zero_iff.mp e4.symm
  unfold puT at t0; unfold puU at u0
  exact ⟨by omega, by omega⟩
theorem puFr_c (a b : puS) : (puC (puFr a b) = puA a ∨ puC (puFr a b) = puA b) ∧ puLe (puA a) (puC (puFr a b)) ∧ puLe (puA b) (puC (puFr a b)) := by
  have ea : puC (puAi a) = puA a := rfl
  have eb : puC (puAi b) = puA b := rfl
  unfold puFr
  by_cases h : puLi (puAi a) (puAi b)
  · rw [puE_pos h]
    have := puLi_c.mp h
    rw [ea, eb] at this
    exact ⟨Or.inr eb, by rw [eb]; exact puLe_of this, by rw [eb]; exact puLe_rf⟩
  · rw [puE_neg h]
    have := fun q => h (puLi_c.mpr q)
    rw [ea, eb] at this
    exact ⟨Or.inl ea, by rw [ea]; exact puLe_rf, by rw [ea]; exact puLe_not.mp this⟩
theorem puTo_c (a b : puS) : (puC (puTo a b) = puZ a ∨ puC (puTo a b) = puZ b) ∧ puLe (puC (puTo a b)) (puZ a) ∧ puLe (puC (puTo a b)) (puZ b) := by
  have ea : puC (puZi a) = puZ a := rfl
  have eb : puC (puZi b) = puZ b := rfl
  unfold puTo
  by_cases h : puLi (puZi b) (puZi a)
  · rw [puE_pos h]
    have := puLi_c.mp h
    rw [ea, eb] at this
    exact ⟨Or.inr eb, by rw [eb]; exact puLe_of this, by rw [eb]; exact puLe_rf⟩
  · rw [puE_neg h]
    have := fun q => h (puLi_c.mpr q)
    rw [ea, eb] at this
    exact ⟨Or.inl ea, by rw [ea]; exact puLe_rf, by rw [ea]; exact puLe_not.mp this⟩
def puLn (a : puS) (p : puP) : Prop := (p.1 - (a.1 : Rat)) * (puH a : Rat) = (p.2 - (a.2.1 : Rat)) * (puW a : Rat)
theorem puLn_all {a b : puS} (hD : puD a b = 0) (hl : puIl a b) : (puLn a (puA a) ∧ puLn a (puZ a)) ∧ (puLn b (puA b) ∧ puLn b (puZ b)) ∧ (puLn a (puA b) ∧ puLn a (puZ b)) ∧ (puLn b (puA a) ∧ puLn b (puZ a)) := by
  obtain ⟨l1, l2⟩ := hl
  have hd : (puD a b : Rat) = 0 := by rw [hD]; rfl
  rw [puDq] at hd
  have k1 : ((b.1 : Rat) - (a.1 : Rat)) * (puH a : Rat) = ((b.2.1 : Rat) - (a.2.1 : Rat)) * (puW a : Rat) := by
    rw [← Rat.intCast_sub, ← Rat.intCast_sub, ← Rat.intCast_mul, ← Rat.intCast_mul]; exact Rat.intCast_inj.mpr l1
  have k2 : ((b.1 : Rat) - (a.1 : Rat)) * (puH b : Rat) = ((b.2.1 : Rat) - (a.2.1 : Rat)) * (puW b : Rat) := by
    rw [← Rat.intCast_sub, ← Rat.intCast_sub, ← Rat.intCast_mul, ← Rat.intCast_mul]; exact Rat.intCast_inj.mpr l2
  unfold puLn puA puZ
  simp only [puWq a, puHq a, puWq b, puHq b]
  generalize (puW a : Rat) = w at *
  generalize (puH a : Rat) = r at *
  generalize (puW b : Rat) = v at *
  generalize (puH b : Rat) = s at *
  refine ⟨⟨?_, ?_⟩, ⟨?_, ?_⟩, ⟨?_, ?_⟩, ?_, ?_⟩ <;> grind
theorem puV_le {a : puS} (h : puV a) : puLe (puA a) (puZ a) := (puOn_Z h).2.1
theorem puAlong {a b : puS} (va : puV a) (vb : puV b) (hD : puD a b = 0) (hl : puIl a b) (hle : puLe (puC (puFr a b)) (puC (puTo a b))) : (puOn a (puC (puFr a b)) ∧ puOn b (puC (puFr a b))) ∧ (puOn a (puC (puTo a b)) ∧ puOn b (puC (puTo a b))) := by
  obtain ⟨⟨n1, n2⟩, ⟨n3, n4⟩, ⟨n5, n6⟩, n7, n8⟩ := puLn_all hD hl
  obtain ⟨f1, f2, f3⟩ := puFr_c a b
  obtain ⟨t1, t2, t3⟩ := puTo_c a b
  have lf : puLn a (puC (puFr a b)) ∧ puLn b (puC (puFr a b)) := by
    rcases f1 with e | e
    · rw [e]; exact ⟨n1, n7⟩
    · rw [e]; exact ⟨n5, n3⟩
  have lt : puLn a (puC (puTo a b)) ∧ puLn b (puC (puTo a b)) := by
    rcases t1 with e | e
    · rw [e]; exact ⟨n2, n8⟩
    · rw [e]; exact ⟨n6, n4⟩
  exact ⟨⟨⟨lf.1, f2, puLe_tr hle t2⟩, lf.2, f3, puLe_tr hle t3⟩, ⟨lt.1, puLe_tr f2 hle, t2⟩, lt.2, puLe_tr f3 hle, t3⟩
/-- what both have, where they lie on one line -/
theorem puBoth_le {a b : puS} {p : puP} (h1 : puOn a p) (h2 : puOn b p) : puLe (puC (puFr a b)) p ∧ puLe p (puC (puTo a b)) := by
  obtain ⟨f1, -, -⟩ := puFr_c a b
  obtain ⟨t1, -, -⟩ := puTo_c a b
  refine ⟨?_, ?_⟩
  · rcases f1 with e | e
    · rw [e]; exact h1.2.1
    · rw [e]; exact h2.2.1
  · rcases t1 with e | e
    · rw [e]; exact h1.2.2
    · rw [e]; exact h2.2.2
theorem puKd_0 {a b : puS} (va : puV a) (vb : puV b) {p : puP} (h1 : puOn a p) (h2 : puOn b p) : puKd a b ≠ 0 := by
  unfold puKd
  by_cases hD : puD a b = 0
  · rw [puE_pos hD, puE_pos (puIl_of va vb hD h1 h2)]
    obtain ⟨g1, g2⟩ := puBoth_le h1 h2
    have g := puLe_tr g1 g2
    by_cases h3 : puFr a b = puTo a b
    · rw [puE_pos h3]; decide
    · rw [puE_neg h3]
      rcases puLe_iff.mp g with q | q
      · rw [puE_pos (puLi_c.mpr q)]; decide
      · exact absurd (puC_inj.mp q) h3
  · rw [puE_neg hD, puE_pos (puIn_of va vb hD h1 h2).1]; decide
theorem puKd_1 {a b : puS} (va : puV a) (vb : puV b) (h : puKd a b = 1) : puOn a (puMp a b) ∧ puOn b (puMp a b) ∧ ∀ p, puOn a p → puOn b p → p = puMp a b := by
  unfold puKd at h
  by_cases hD : puD a b = 0
  · rw [puE_pos hD] at h
    have em : puMp a b = puC (puFr a b) := by unfold puMp; rw [puE_pos hD]
    by_cases hl : puIl a b
    · rw [puE_pos hl] at h
      by_cases h3 : puFr a b = puTo a b
      · obtain ⟨g1, -⟩ := puAlong va vb hD hl (by rw [h3]; exact puLe_rf)
        rw [em]
        refine ⟨g1.1, g1.2, fun p q1 q2 => ?_⟩
        obtain ⟨k1, k2⟩ := puBoth_le q1 q2
        rw [← h3] at k2
        exact puLe_as k2 k1
      · rw [puE_neg h3] at h
        by_cases h4 : puLi (puFr a b) (puTo a b)
        · rw [puE_pos h4] at h; exact absurd h (by decide)
        · rw [puE_neg h4] at h; exact absurd h (by decide)
    · rw [puE_neg hl] at h; exact absurd h (by decide)
  · rw [puE_neg hD] at h
    by_cases h2 : puIn a b
    · obtain ⟨k1, k2⟩ := puIn_on va vb hD h2
      exact ⟨k1, k2, fun p q1 q2 => (puIn_of va vb hD q1 q2).2⟩
    · rw [puE_neg h2] at h; exact absurd h (by decide)
theorem puKd_2 {a b : puS} (va : puV a) (vb : puV b) (h : puKd a b = 2) : puD a b = 0 ∧ puIl a b ∧ puLi (puFr a b) (puTo a b) ∧ ∃ p q : puP, p ≠ q ∧ puOn a p ∧ puOn b p ∧ puOn a q ∧ puOn b q := by
  unfold puKd at h
  by_cases hD : puD a b = 0
  · rw [puE_pos hD] at h
    by_cases hl : puIl a b
    · rw [puE_pos hl] at h
      by_cases h3 : puFr a b = puTo a b
      · rw [puE_pos h3] at h; exact absurd h (by decide)
      · rw [puE_neg h3] at h
        by_cases h4 : puLi (puFr a b) (puTo a b)
        · obtain ⟨g1, g2⟩ := puAlong va vb hD hl (puLe_of (puLi_c.mp h4))
          exact ⟨hD, hl, h4, _, _, fun q => h3 (puC_inj.mp q), g1.1, g1.2, g2.1, g2.2⟩
        · rw [puE_neg h4] at h; exact absurd h (by decide)
    · rw [puE_neg hl] at h; exact absurd h (by decide)
  · rw [puE_neg hD] at h
    by_cases h2 : puIn a b
    · rw [puE_pos h2] at h; exact absurd h (by decide)
    · rw [puE_neg h2] at h; exact absurd h (by decide)
/-- the same told either way round -/
theorem puKd_sym {a b : puS} (va : puV a) (vb : puV b) : puKd a b = puKd b a := by
  have key : ∀ {a b : puS}, puV a → puV b → (puKd a b = 1 → puKd b a = 1) ∧ (puKd a b = 2 → puKd b a = 2) := by
    intro a b va vb
    have l := puKd_le b a
    constructor
    · intro h
      obtain ⟨k1, k2, k3⟩ := puKd_1 va vb h
      have n0 := puKd_0 vb va k2 k1
      have n2 : puKd b a ≠ 2 := by
        intro q
        obtain ⟨-, -, -, p, r, ne, p1, p2, r1, r2⟩ := puKd_2 vb va q
        exact ne ((k3 p p2 p1).trans (k3 r r2 r1).symm)
      omega
    · intro h
      obtain ⟨-, -, -, p, r, ne, p1, p2, r1, r2⟩ := puKd_2 va vb h
      have n0 := puKd_0 vb va p2 p1
      have n1 : puKd b a ≠ 1 := by
        intro q
        obtain ⟨-, -, k3⟩ := puKd_1 vb va q
        exact ne ((k3 p p2 p1).trans (k3 r r2 r1).symm)
      omega
  have l1 := puKd_le a b
  have l2 := puKd_le b a
  have g1 := key va vb
  have g2 := key vb va
  omega
theorem puMp_sym {a b : puS} (va : puV a) (vb : puV b) (h : puKd a b = 1) : puMp a b = puMp b a := by
  obtain ⟨k1, k2, -⟩ := puKd_1 va vb h
  exact (puKd_1 vb va ((puKd_sym vb va).trans h)).2.2 _ k2 k1
/-- a third point between two on one line -/
theorem puBetween {a b : puS} {p q r : puP} (ne : p ≠ q) (a1 : puLn a p) (a2 : puLn a q) (a3 : puLn a r) (b1 : puOn b p) (b2 : puOn b q) (l1 : puLe p r) (l2 : puLe r q) (na : ¬ ((puW a : Rat) = 0 ∧ (puH a : Rat) = 0)) : puOn b r := by
  refine ⟨?_, puLe_tr b1.2.1 l1, puLe_tr l2 b2.2.2⟩
  have c1 := b1.1
  have c2 := b2.1
  unfold puLn at a1 a2 a3
  obtain ⟨p1, p2⟩ := p; obtain ⟨q1, q2⟩ := q; obtain ⟨r1, r2⟩ := r
  simp only at *
  generalize (puW a : Rat) = w at *
  generalize (puH a : Rat) = h at *
  generalize (puW b : Rat) = v at *
  generalize (puH b : Rat) = s at *
  have hne : q1 - p1 ≠ 0 ∨ q2 - p2 ≠ 0 := by
    apply Classical.byContradiction; intro hc
    apply ne
    have e1 : q1 - p1 = 0 := Classical.byContradiction fun k => hc (Or.inl k)
    have e2 : q2 - p2 = 0 := Classical.byContradiction fun k => hc (Or.inr k)
    have e3 : p1 = q1 := by grind
    have e4 : p2 = q2 := by grind
    rw [e3, e4]
  have m1 : (q1 - p1) * h = (q2 - p2) * w := by grind
  have m2 : (r1 - p1) * h = (r2 - p2) * w := by grind
  have m3 : (q1 - p1) * s = (q2 - p2) * v := by grind
  have m4 : (r1 - p1) * (q2 - p2) = (r2 - p2) * (q1 - p1) := by
    by_cases hw : w = 0
    · have hh : h ≠ 0 := fun k => na ⟨hw, k⟩
      subst hw
      have x1 : q1 - p1 = 0 := (Rat.mul_eq_zero.mp (by grind : (q1 - p1) * h = 0)).resolve_right hh
      have x2 : r1 - p1 = 0 := (Rat.mul_eq_zero.mp (by grind : (r1 - p1) * h = 0)).resolve_right hh
      rw [x1, x2]; grind
    · have : ((r1 - p1) * (q2 - p2) - (r2 - p2) * (q1 - p1)) * w = 0 := by grind
      have := (Rat.mul_eq_zero.mp this).resolve_right hw
      grind
  have m5 : (r1 - p1) * s = (r2 - p2) * v := by
    rcases hne with k | k
    · have : ((r1 - p1) * s - (r2 - p2) * v) * (q1 - p1) = 0 := by grind
      have := (Rat.mul_eq_zero.mp this).resolve_right k
      grind
    · have : ((r1 - p1) * s - (r2 - p2) * v) * (q2 - p2) = 0 := by grind
      have := (Rat.mul_eq_zero.mp this).resolve_right k
      grind
  grind
