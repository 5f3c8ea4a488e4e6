/-! PURE: how two stretches meet, as the class tells it -/
theorem puT_prods {a b : puS} (va : puV a) (vb : puV b) : ((-7984008 ≤ (b.1 - a.1) * puH a ∧ (b.1 - a.1) * puH a ≤ 7984008) ∧ (-7984008 ≤ (b.1 - a.1) * puH b ∧ (b.1 - a.1) * puH b ≤ 7984008)) ∧ ((-7984008 ≤ (b.2.1 - a.2.1) * puW a ∧ (b.2.1 - a.2.1) * puW a ≤ 7984008) ∧ (-7984008 ≤ (b.2.1 - a.2.1) * puW b ∧ (b.2.1 - a.2.1) * puW b ≤ 7984008)) := by
  have wa := puV_w va; have ha := puV_h va
  have wb := puV_w vb; have hb := puV_h vb
  obtain ⟨⟨a1, a2, a3, a4⟩, -, -⟩ := va
  obtain ⟨⟨b1, b2, b3, b4⟩, -, -⟩ := vb
  have g3 := pu_mb (v := b.1 - a.1) (w := puH b) 1998 1998 (by omega) (by omega) (by omega) (by omega)
  have g4 := pu_mb (v := b.2.1 - a.2.1) (w := puW b) 1998 1998 (by omega) (by omega) (by omega) (by omega)
  have g5 := pu_mb (v := b.1 - a.1) (w := puH a) 1998 1998 (by omega) (by omega) (by omega) (by omega)
  have g6 := pu_mb (v := b.2.1 - a.2.1) (w := puW a) 1998 1998 (by omega) (by omega) (by omega) (by omega)
  omega
noncomputable def puKa (a b : puS) : Nat := puE (puIl a b) (puE (puFr a b = puTo a b) 1 (puE (puLi (puFr a b) (puTo a b)) 2 0)) 0
theorem puE_not {β : Type} {c : Prop} {a b : β} : puE (¬ c) a b = puE c b a := by
  by_cases h : c
  · rw [puE_neg (fun q => q h), puE_pos h]
  · rw [puE_pos h, puE_neg h]
theorem puE_1 {c : Prop} {a b : Int × Int} : (puE c a b).1 = puE c a.1 b.1 := (puE_fn Prod.fst).symm
theorem puE_2 {c : Prop} {a b : Int × Int} : (puE c a b).2 = puE c a.2 b.2 := (puE_fn Prod.snd).symm
theorem puE_iff {β : Type} {c d : Prop} {a b : β} (h : c ↔ d) : puE c a b = puE d a b := by rw [propext h]
theorem puFr_bd {a b : puS} (va : puV a) (vb : puV b) : (-999 ≤ (puFr a b).1 ∧ (puFr a b).1 ≤ 999) ∧ (-999 ≤ (puFr a b).2 ∧ (puFr a b).2 ≤ 999) := by
  obtain ⟨⟨a1, a2, a3, a4⟩, -, -⟩ := va
  obtain ⟨⟨b1, b2, b3, b4⟩, -, -⟩ := vb
  unfold puFr
  by_cases h : puLi (puAi a) (puAi b)
  · rw [puE_pos h]; exact ⟨b1, b2⟩
  · rw [puE_neg h]; exact ⟨a1, a2⟩
theorem puTo_bd {a b : puS} (va : puV a) (vb : puV b) : (-999 ≤ (puTo a b).1 ∧ (puTo a b).1 ≤ 999) ∧ (-999 ≤ (puTo a b).2 ∧ (puTo a b).2 ≤ 999) := by
  obtain ⟨⟨a1, a2, a3, a4⟩, -, -⟩ := va
  obtain ⟨⟨b1, b2, b3, b4⟩, -, -⟩ := vb
  unfold puTo
  by_cases h : puLi (puZi b) (puZi a)
  · rw [puE_pos h]; exact ⟨b3, b4⟩
  · rw [puE_neg h]; exact ⟨a3, a4⟩
theorem p_studyAlike {sx sy tx ty ox oy px py : Nat → Int32} {i j : Nat} {a b : puS} (ha : puQ sx sy tx ty i a) (hb : puQ ox oy px py j b) (va : puV a) (vb : puV b) (hi : i < 24) (hj : j < 24) {k0 : Int32} {x0 y0 : Int64} {c0 c1 c2 c3 : Int32} :
    fX0_studyAlike k0 x0 y0 c0 c1 c2 c3 sx sy tx ty ox oy px py (puI (i : Int)) (puI (j : Int)) = some (puI (puKa a b : Int), puJ (puFr a b).1, puJ (puFr a b).2, puI (puFr a b).1, puI (puFr a b).2, puI (puTo a b).1, puI (puTo a b).2) := by
  have e1 := p_width ha va hi
  have e2 := p_rise ha va hi
  have e3 := p_width hb vb hj
  have e4 := p_rise hb vb hj
  obtain ⟨⟨g1, g2⟩, g3, g4⟩ := puT_prods va vb
  have fb := puFr_bd va vb
  have tb := puTo_bd va vb
  obtain ⟨h1, h2, h3, h4⟩ := ha
  obtain ⟨q1, q2, q3, q4⟩ := hb
  obtain ⟨⟨a1, a2, a3, a4⟩, -, -⟩ := va
  obtain ⟨⟨b1, b2, b3, b4⟩, -, -⟩ := vb
  unfold fX0_studyAlike
  rw [e1, e2, e3, e4]
  simp (disch := omega) only [xsLt_eq, xsBd_sm, xsCk_in, xsBr_10, xsBr_01, xsBr_B0, xsBr_0B, xsBr_1B, xsBr_B1, xsBr_10p, xsBr_01p, xsBr_B0p, xsBr_0Bp, xsBr_1Bp, xsBr_B1p, puB_0, puB_0p, puB_1p, xsBr_not, Classical.not_not, puI_lit, puJ_lit, puI_add, puI_sub, puI_mul, puI_neg, puJ_add, puJ_sub, puJ_mul, puJ_neg, puI_l, puI_clN, puI_clL, puI_lt, puI_le, puI_eq, puJ_lt, puJ_le, puJ_eq, h1, h2, h3, h4, q1, q2, q3, q4]
  unfold fX0_studyAlike_J81
  simp (disch := omega) only [xsLt_eq, xsBd_sm, xsCk_in, xsBr_10, xsBr_01, xsBr_B0, xsBr_0B, xsBr_1B, xsBr_B1, xsBr_10p, xsBr_01p, xsBr_B0p, xsBr_0Bp, xsBr_1Bp, xsBr_B1p, puB_0, puB_0p, puB_1p, xsBr_not, Classical.not_not, puI_lit, puJ_lit, puI_add, puI_sub, puI_mul, puI_neg, puJ_add, puJ_sub, puJ_mul, puJ_neg, puI_l, puI_clN, puI_clL, puI_lt, puI_le, puI_eq, puJ_lt, puJ_le, puJ_eq]
  have ef : (0 < b.1 - a.1 ∨ b.1 - a.1 = 0 ∧ ¬ b.2.1 - a.2.1 ≤ 0) ↔ puLi (puAi a) (puAi b) := by unfold puLi puAi; simp only; omega
  rw [puB_iff ef]
  unfold fX0_studyAlike_J109
  simp (disch := omega) only [xsCk_in, puI_clN, h1, h2, h3, h4, q1, q2, q3, q4, puB_0, xsBr_not, xsBr_some, puE_fn puI, puE_not, xsBd_sm]
  have ex : puE (puLi (puAi a) (puAi b)) b.1 a.1 = (puFr a b).1 := by unfold puFr; rw [puE_1]; rfl
  rw [ex]
  unfold fX0_studyAlike_J133
  simp (disch := omega) only [xsCk_in, puI_clN, h1, h2, h3, h4, q1, q2, q3, q4, puB_0, xsBr_not, xsBr_some, puE_fn puI, puE_not, xsBd_sm]
  have ey : puE (puLi (puAi a) (puAi b)) b.2.1 a.2.1 = (puFr a b).2 := by unfold puFr; rw [puE_2]; rfl
  rw [ey]
  unfold fX0_studyAlike_J158
  simp (disch := omega) only [xsLt_eq, xsBd_sm, xsCk_in, xsBr_10, xsBr_01, xsBr_B0, xsBr_0B, xsBr_1B, xsBr_B1, xsBr_10p, xsBr_01p, xsBr_B0p, xsBr_0Bp, xsBr_1Bp, xsBr_B1p, puB_0, puB_0p, puB_1p, xsBr_not, Classical.not_not, puI_lit, puJ_lit, puI_add, puI_sub, puI_mul, puI_neg, puJ_add, puJ_sub, puJ_mul, puJ_neg, puI_l, puI_clN, puI_clL, puI_lt, puI_le, puI_eq, puJ_lt, puJ_le, puJ_eq, h1, h2, h3, h4, q1, q2, q3, q4]
  have et : (b.2.2.1 < a.2.2.1 ∨ b.2.2.1 = a.2.2.1 ∧ ¬ a.2.2.2.1 ≤ b.2.2.2.1) ↔ puLi (puZi b) (puZi a) := by unfold puLi puZi; simp only; omega
  rw [puB_iff et]
  unfold fX0_studyAlike_J214
  simp (disch := omega) only [xsCk_in, puI_clN, h1, h2, h3, h4, q1, q2, q3, q4, puB_0, xsBr_not, xsBr_some, puE_fn puI, puE_not, xsBd_sm]
  have ez : puE (puLi (puZi b) (puZi a)) b.2.2.1 a.2.2.1 = (puTo a b).1 := by unfold puTo; rw [puE_1]; rfl
  rw [ez]
  unfold fX0_studyAlike_J238
  simp (disch := omega) only [xsCk_in, puI_clN, h1, h2, h3, h4, q1, q2, q3, q4, puB_0, xsBr_not, xsBr_some, puE_fn puI, puE_not, xsBd_sm]
  have eu : puE (puLi (puZi b) (puZi a)) b.2.2.2.1 a.2.2.2.1 = (puTo a b).2 := by unfold puTo; rw [puE_2]; rfl
  rw [eu]
  unfold fX0_studyAlike_J263
  simp (disch := omega) only [xsLt_eq, xsBd_sm, xsCk_in, xsBr_10, xsBr_01, xsBr_B0, xsBr_0B, xsBr_1B, xsBr_B1, xsBr_10p, xsBr_01p, xsBr_B0p, xsBr_0Bp, xsBr_1Bp, xsBr_B1p, puB_0, puB_0p, puB_1p, xsBr_not, Classical.not_not, puI_lit, puJ_lit, puI_add, puI_sub, puI_mul, puI_neg, puJ_add, puJ_sub, puJ_mul, puJ_neg, puI_l, puI_clN, puI_clL, puI_lt, puI_le, puI_eq, puJ_lt, puJ_le, puJ_eq]
  have ee : ((puFr a b).1 = (puTo a b).1 ∧ (puFr a b).2 = (puTo a b).2) ↔ puFr a b = puTo a b := Prod.ext_iff.symm
  rw [puB_iff ee]
  unfold fX0_studyAlike_J311
  simp (disch := omega) only [xsLt_eq, xsBd_sm, xsCk_in, xsBr_10, xsBr_01, xsBr_B0, xsBr_0B, xsBr_1B, xsBr_B1, xsBr_10p, xsBr_01p, xsBr_B0p, xsBr_0Bp, xsBr_1Bp, xsBr_B1p, puB_0, puB_0p, puB_1p, xsBr_not, Classical.not_not, puI_lit, puJ_lit, puI_add, puI_sub, puI_mul, puI_neg, puJ_add, puJ_sub, puJ_mul, puJ_neg, puI_l, puI_clN, puI_clL, puI_lt, puI_le, puI_eq, puJ_lt, puJ_le, puJ_eq]
  have el : ((puFr a b).1 < (puTo a b).1 ∨ (puFr a b).1 = (puTo a b).1 ∧ ¬ (puTo a b).2 ≤ (puFr a b).2) ↔ puLi (puFr a b) (puTo a b) := by unfold puLi; omega
  rw [puB_iff el]
  have ei : ((b.1 - a.1) * puH a = (b.2.1 - a.2.1) * puW a ∧ (b.1 - a.1) * puH b = (b.2.1 - a.2.1) * puW b) ↔ puIl a b := Iff.rfl
  rw [puB_iff ei]
  unfold fX0_studyAlike_J351 fX0_studyAlike_J371 fX0_studyAlike_J387 puKa
  simp (disch := omega) only [puI_l, puB_0, puB_0p, puI_lit, xsBr_not]
  by_cases c1 : puIl a b
  · simp only [xsBr_pos c1, puE_pos c1]
    by_cases c2 : puFr a b = puTo a b
    · simp only [xsBr_pos c2, puE_pos c2]; rfl
    · simp only [xsBr_neg c2, puE_neg c2]
      by_cases c3 : puLi (puFr a b) (puTo a b)
      · simp only [xsBr_pos c3, puE_pos c3, xsBd_sm]; rfl
      · simp only [xsBr_neg c3, puE_neg c3, xsBd_sm]; rfl
  · simp only [xsBr_neg c1, puE_neg c1, xsBd_sm]; rfl
/-- what study leaves behind -/
def puSd (a b : puS) (o : Int32 × Int64 × Int64 × Int64 × Int32 × Int32 × Int32 × Int32) : Prop :=
  o.1 = puI (puKd a b : Int) ∧ (puKd a b = 1 → puRep o.2.1 o.2.2.1 o.2.2.2.1 (puMp a b)) ∧
  (puD a b = 0 → o.2.1 = puJ (puFr a b).1 ∧ o.2.2.1 = puJ (puFr a b).2 ∧ o.2.2.2.1 = puJ 1 ∧ o.2.2.2.2.1 = puI (puFr a b).1 ∧ o.2.2.2.2.2.1 = puI (puFr a b).2 ∧ o.2.2.2.2.2.2.1 = puI (puTo a b).1 ∧ o.2.2.2.2.2.2.2 = puI (puTo a b).2) ∧
  (puD a b ≠ 0 → ∃ g : Int, (g = 1 ∧ 0 < puD a b ∨ g = -1 ∧ puD a b < 0) ∧ o.2.1 = puJ (a.1 * (g * puD a b) + g * puT a b * puW a) ∧ o.2.2.1 = puJ (a.2.1 * (g * puD a b) + g * puT a b * puH a) ∧ o.2.2.2.1 = puJ (g * puD a b))
theorem puMp_rep {a b : puS} (va : puV a) (vb : puV b) (h : puKd a b = 1) (hD : puD a b ≠ 0) {g : Int} (hg : g = 1 ∧ 0 < puD a b ∨ g = -1 ∧ puD a b < 0) : puRep (puJ (a.1 * (g * puD a b) + g * puT a b * puW a)) (puJ (a.2.1 * (g * puD a b) + g * puT a b * puH a)) (puJ (g * puD a b)) (puMp a b) := by
  obtain ⟨k1, -, -⟩ := puKd_1 va vb h
  have hb := puOn_bd va k1
  have bd := (puD_bd va vb).1
  have hd : (puD a b : Rat) ≠ 0 := fun q => hD (Rat.intCast_eq_zero_iff.mp q)
  have e : (puT a b : Rat) / (puD a b : Rat) * (puD a b : Rat) = (puT a b : Rat) := Rat.div_mul_cancel hd
  have em : puMp a b = ((a.1 : Rat) + (puT a b : Rat) / (puD a b : Rat) * (puW a : Rat), (a.2.1 : Rat) + (puT a b : Rat) / (puD a b : Rat) * (puH a : Rat)) := by unfold puMp; rw [puE_neg hD]
  rcases hg with ⟨rfl, h1⟩ | ⟨rfl, h1⟩
  · refine puRep_mk (by omega) (by omega) ?_ ?_ hb
    · rw [em]; simp only [Rat.intCast_add, Rat.intCast_mul]
      generalize (puT a b : Rat) / (puD a b : Rat) = t at *
      rw [← e]; have : ((1 : Int) : Rat) = 1 := rfl
      rw [this]; grind
    · rw [em]; simp only [Rat.intCast_add, Rat.intCast_mul]
      generalize (puT a b : Rat) / (puD a b : Rat) = t at *
      rw [← e]; have : ((1 : Int) : Rat) = 1 := rfl
      rw [this]; grind
  · refine puRep_mk (by omega) (by omega) ?_ ?_ hb
    · rw [em]; simp only [Rat.intCast_add, Rat.intCast_mul]
      generalize (puT a b : Rat) / (puD a b : Rat) = t at *
      rw [← e]; have : ((-1 : Int) : Rat) = -1 := rfl
      rw [this]; grind
    · rw [em]; simp only [Rat.intCast_add, Rat.intCast_mul]
      generalize (puT a b : Rat) / (puD a b : Rat) = t at *
      rw [← e]; have : ((-1 : Int) : Rat) = -1 := rfl
      rw [this]; grind
theorem puFr_rep {a b : puS} (va : puV a) (vb : puV b) : puRep (puJ (puFr a b).1) (puJ (puFr a b).2) (puJ 1) (puC (puFr a b)) := by
  have fb := puFr_bd va vb
  exact ⟨_, _, 1, rfl, rfl, rfl, by omega, ⟨by unfold puC; simp only; exact (Rat.mul_one _).symm, by unfold puC; simp only; exact (Rat.mul_one _).symm⟩, by omega, by omega⟩
theorem p_study {sx sy tx ty ox oy px py : Nat → Int32} {i j : Nat} {a b : puS} (ha : puQ sx sy tx ty i a) (hb : puQ ox oy px py j b) (va : puV a) (vb : puV b) (hi : i < 24) (hj : j < 24) {k0 : Int32} {x0 y0 l0 : Int64} {c0 c1 c2 c3 : Int32} :
    puOk (fX0_study k0 x0 y0 l0 c0 c1 c2 c3 sx sy tx ty ox oy px py (puI (i : Int)) (puI (j : Int))) (puSd a b) := by
  have e1 := p_width ha va hi
  have e2 := p_rise ha va hi
  have e3 := p_width hb vb hj
  have e4 := p_rise hb vb hj
  have e5 := p_studyAlike ha hb va vb hi hj (k0 := k0) (x0 := x0) (y0 := y0) (c0 := c0) (c1 := c1) (c2 := c2) (c3 := c3)
  obtain ⟨d1, d2, d3⟩ := puD_bd va vb
  have wa := puV_w va; have wb := puV_h va
  have va' := va; have vb' := vb
  obtain ⟨h1, h2, h3, h4⟩ := ha
  obtain ⟨q1, q2, q3, q4⟩ := hb
  obtain ⟨⟨a1, a2, a3, a4⟩, -, -⟩ := va
  obtain ⟨⟨b1, b2, b3, b4⟩, -, -⟩ := vb
  unfold fX0_study
  rw [e1, e2, e3, e4, e5]
  simp (disch := omega) only [xsLt_eq, xsBd_sm, xsCk_in, puI_lit, puJ_lit, puI_add, puI_sub, puI_mul, puI_neg, puJ_add, puJ_sub, puJ_mul, puJ_neg, puI_l, puI_clN, puI_clL, h1, h2, h3, h4, q1, q2, q3, q4]
  have eD : puW a * puH b - puH a * puW b = puD a b := rfl
  have eT : (b.1 - a.1) * puH b - (b.2.1 - a.2.1) * puW b = puT a b := rfl
  have eU : (b.1 - a.1) * puH a - (b.2.1 - a.2.1) * puW a = puU a b := rfl
  rw [eD, eT, eU]
  simp (disch := omega) only [puI_lt, puI_le, puI_eq, puJ_lt, puJ_le, puJ_eq]
  by_cases hD : puD a b = 0
  · rw [xsBr_pos hD]
    have ek : puKd a b = puKa a b := by unfold puKd puKa; rw [puE_pos hD]
    refine puOk_some ⟨?_, ?_, ?_, ?_⟩
    · rw [ek]
    · intro k1
      have em : puMp a b = puC (puFr a b) := by unfold puMp; rw [puE_pos hD]
      rw [em]; exact puFr_rep va' vb'
    · intro _; exact ⟨rfl, rfl, rfl, rfl, rfl, rfl, rfl⟩
    · intro h; exact absurd hD h
  · rw [xsBr_neg hD]
    have key : ∀ g : Int, (g = 1 ∧ 0 < puD a b ∨ g = -1 ∧ puD a b < 0) → puOk (fX0_study_J145 c0 c1 c2 c3 sx sy tx ty (puI (i : Int)) (puJ (g * puD a b)) (puJ (g * puT a b)) (puJ (g * puU a b))) (puSd a b) := by
      intro g hg
      have g1 : -7984008 ≤ g * puD a b ∧ g * puD a b ≤ 7984008 := by rcases hg with ⟨rfl, _⟩ | ⟨rfl, _⟩ <;> omega
      have g2 : -7984008 ≤ g * puT a b ∧ g * puT a b ≤ 7984008 := by rcases hg with ⟨rfl, _⟩ | ⟨rfl, _⟩ <;> omega
      have g3 : -7984008 ≤ g * puU a b ∧ g * puU a b ≤ 7984008 := by rcases hg with ⟨rfl, _⟩ | ⟨rfl, _⟩ <;> omega
      unfold fX0_study_J145
      simp (disch := omega) only [xsLt_eq, xsBd_sm, xsCk_in, xsBr_10, xsBr_01, xsBr_B0, xsBr_0B, xsBr_1B, xsBr_B1, xsBr_10p, xsBr_01p, xsBr_B0p, xsBr_0Bp, xsBr_1Bp, xsBr_B1p, puB_0, puB_0p, puB_1p, xsBr_not, Classical.not_not, puI_lit, puJ_lit, puI_add, puI_sub, puI_mul, puI_neg, puJ_add, puJ_sub, puJ_mul, puJ_neg, puI_l, puI_clN, puI_clL, puI_lt, puI_le, puI_eq, puJ_lt, puJ_le, puJ_eq]
      have ein : (¬ g * puT a b < 0 ∧ ¬ g * puD a b < g * puT a b ∧ ¬ g * puU a b < 0 ∧ ¬ g * puD a b < g * puU a b) ↔ puIn a b := by
        unfold puIn
        rcases hg with ⟨rfl, _⟩ | ⟨rfl, _⟩ <;> omega
      rw [puB_iff ein]
      unfold fX0_study_J180
      simp (disch := omega) only [xsLt_eq, xsBd_sm, xsCk_in, xsBr_10, xsBr_01, xsBr_B0, xsBr_0B, xsBr_1B, xsBr_B1, xsBr_10p, xsBr_01p, xsBr_B0p, xsBr_0Bp, xsBr_1Bp, xsBr_B1p, puB_0, puB_0p, puB_1p, xsBr_not, Classical.not_not, puI_lit, puJ_lit, puI_add, puI_sub, puI_mul, puI_neg, puJ_add, puJ_sub, puJ_mul, puJ_neg, puI_l, puI_clN, puI_clL, puI_lt, puI_le, puI_eq, puJ_lt, puJ_le, puJ_eq]
      unfold fX0_study_J193
      rw [e1, e2]
      simp (disch := omega) only [xsLt_eq, xsBd_sm, xsCk_in, puI_lit, puJ_lit, puI_add, puI_sub, puI_mul, puI_neg, puJ_add, puJ_sub, puJ_mul, puJ_neg, puI_l, puI_clN, puI_clL, h1, h2, h3, h4]
      have ek : puB (puIn a b) = puI (puKd a b : Int) := by
        unfold puKd; rw [puE_neg hD]
        by_cases c : puIn a b
        · rw [puB_pos c, puE_pos c]; rfl
        · rw [puB_neg c, puE_neg c]; rfl
      refine puOk_some ⟨ek, fun k1 => puMp_rep va' vb' k1 hD hg, fun h => absurd h hD, fun _ => ⟨g, hg, rfl, rfl, rfl⟩⟩
    rcases Int.lt_trichotomy (puD a b) 0 with hs | hs | hs
    · have k := key (-1) (Or.inr ⟨rfl, hs⟩)
      rw [xsBr_neg (by omega)]
      simp only [xsBd_sm]
      rw [show -1 * puD a b = -puD a b by omega, show -1 * puT a b = -puT a b by omega, show -1 * puU a b = -puU a b by omega] at k
      exact k
    · exact absurd hs hD
    · have k := key 1 (Or.inl ⟨rfl, hs⟩)
      rw [xsBr_pos (by omega)]
      simp only [xsBd_sm]
      rw [Int.one_mul, Int.one_mul, Int.one_mul] at k
      exact k
