/-! PURE: how two stretches meet, as the reference tells it -/
theorem p_isOn1 {f : Nat → Int32} {q : puS} (h : puM4 f q) (v : puV q) {a1 a2 a3 : Int64} {p : puP} (hr : puRep a1 a2 a3 p) : fX11_isOn_v1 f a1 a2 a3 = some (puB (puOn q p)) := p_isOn h v hr
theorem p_isOn2 {f : Nat → Int32} {q : puS} (h : puM4 f q) (v : puV q) {a1 a2 a3 : Int64} {p : puP} (hr : puRep a1 a2 a3 p) : fX11_isOn_v2 f a1 a2 a3 = some (puB (puOn q p)) := p_isOn h v hr
theorem p_isAhead {a b c d : Int} (ha : -2147483648 ≤ a ∧ a ≤ 2147483647) (hb : -2147483648 ≤ b ∧ b ≤ 2147483647) (hc : -2147483648 ≤ c ∧ c ≤ 2147483647) (hd : -2147483648 ≤ d ∧ d ≤ 2147483647) : fX11_isAhead (puI a) (puI b) (puI c) (puI d) = some (puB (puLi (a, b) (c, d))) := by
  unfold fX11_isAhead
  simp (disch := omega) only [xsLt_eq, xsBd_sm, xsCk_in, xsBr_10, xsBr_01, xsBr_B0, xsBr_0B, xsBr_1B, xsBr_B1, xsBr_10p, xsBr_01p, xsBr_B0p, xsBr_0Bp, xsBr_1Bp, xsBr_B1p, puB_0, puB_0p, puB_1p, xsBr_not, Classical.not_not, puI_lit, puJ_lit, puI_add, puI_sub, puI_mul, puI_neg, puJ_add, puJ_sub, puJ_mul, puJ_neg, puI_l, puI_clN, puI_cl0, puI_cl1, puI_cl2, puI_cl3, puI_cl4, puI_lt, puI_le, puI_eq, puJ_lt, puJ_le, puJ_eq]
  refine congrArg some (puB_iff ?_)
  unfold puLi
  omega
theorem p_isMere {f : Nat → Int32} {a b c d : Int} (h0 : f 0 = puI a) (h1 : f 1 = puI b) (h2 : f 2 = puI c) (h3 : f 3 = puI d) (ha : -2147483648 ≤ a ∧ a ≤ 2147483647) (hb : -2147483648 ≤ b ∧ b ≤ 2147483647) (hc : -2147483648 ≤ c ∧ c ≤ 2147483647) (hd : -2147483648 ≤ d ∧ d ≤ 2147483647) : fX11_isMere f = some (puB ((a, b) = (c, d))) := by
  unfold fX11_isMere
  simp (disch := omega) only [xsLt_eq, xsBd_sm, xsCk_in, xsBr_10, xsBr_01, xsBr_B0, xsBr_0B, xsBr_1B, xsBr_B1, xsBr_10p, xsBr_01p, xsBr_B0p, xsBr_0Bp, xsBr_1Bp, xsBr_B1p, puB_0, puB_0p, puB_1p, xsBr_not, Classical.not_not, puI_lit, puJ_lit, puI_add, puI_sub, puI_mul, puI_neg, puJ_add, puJ_sub, puJ_mul, puJ_neg, puI_l, puI_clN, puI_cl0, puI_cl1, puI_cl2, puI_cl3, puI_cl4, puI_lt, puI_le, puI_eq, puJ_lt, puJ_le, puJ_eq, h0, h1, h2, h3]
  refine congrArg some (puB_iff ?_)
  rw [Prod.mk.injEq]
theorem p_isMere1 {f : Nat → Int32} {q : puS} (h : puM4 f q) (v : puV q) : fX11_isMere_v1 f = some (puB (puAi q = puZi q)) := by
  obtain ⟨h1, h2, h3, h4⟩ := h
  obtain ⟨⟨b1, b2, b3, b4⟩, -, -⟩ := v
  exact p_isMere h1 h2 h3 h4 (by omega) (by omega) (by omega) (by omega)
/-- what shares leaves behind -/
def puSr (a b : puS) (o : Int32 × (Nat → Int32) × Int64 × Int64 × Int64) : Prop :=
  o.1 = puI (puKd a b : Int) ∧ (puKd a b = 1 → puRep o.2.2.1 o.2.2.2.1 o.2.2.2.2 (puMp a b)) ∧
  (puKd a b = 2 → o.2.1 0 = puI (puFr a b).1 ∧ o.2.1 1 = puI (puFr a b).2 ∧ o.2.1 2 = puI (puTo a b).1 ∧ o.2.1 3 = puI (puTo a b).2)
theorem puTo_alt (a b : puS) : puE (puLi (puZi a) (puZi b)) (puZi a) (puZi b) = puTo a b := by
  unfold puTo
  by_cases h : puLi (puZi a) (puZi b)
  · rw [puE_pos h]
    by_cases h2 : puLi (puZi b) (puZi a)
    · exfalso; unfold puLi at h h2; omega
    · rw [puE_neg h2]
  · rw [puE_neg h]
    by_cases h2 : puLi (puZi b) (puZi a)
    · rw [puE_pos h2]
    · rw [puE_neg h2]
      unfold puLi at h h2
      exact Prod.ext (by omega) (by omega)
theorem puUpd_eq (f : Nat → Int32) (k : Nat) (x : Int32) : upd f k x k = x := if_pos rfl
theorem puUpd_ne {f : Nat → Int32} {k j : Nat} {x : Int32} (h : j ≠ k) : upd f k x j = f j := if_neg h
theorem p_sharesLine {f g sh : Nat → Int32} {a b : puS} (ha : puM4 f a) (hb : puM4 g b) (va : puV a) (vb : puV b) {x0 y0 d0 : Int64} (hD : puD a b = 0) (hl : puIl a b) : puOk (fX11_sharesLine f g sh x0 y0 d0) (puSr a b) := by
  have fb := puFr_bd va vb
  have tb := puTo_bd va vb
  have va' := va; have vb' := vb
  obtain ⟨h1, h2, h3, h4⟩ := ha
  obtain ⟨q1, q2, q3, q4⟩ := hb
  obtain ⟨⟨a1, a2, a3, a4⟩, -, -⟩ := va
  obtain ⟨⟨b1, b2, b3, b4⟩, -, -⟩ := vb
  have ef : puE (puLi (a.1, a.2.1) (b.1, b.2.1)) (b.1, b.2.1) (a.1, a.2.1) = puFr a b := rfl
  have et : puE (puLi (a.2.2.1, a.2.2.2.1) (b.2.2.1, b.2.2.2.1)) (a.2.2.1, a.2.2.2.1) (b.2.2.1, b.2.2.2.1) = puTo a b := puTo_alt a b
  have ef1 : puE (puLi (a.1, a.2.1) (b.1, b.2.1)) b.1 a.1 = (puFr a b).1 := by rw [← ef, puE_1]
  have ef2 : puE (puLi (a.1, a.2.1) (b.1, b.2.1)) b.2.1 a.2.1 = (puFr a b).2 := by rw [← ef, puE_2]
  have et1 : puE (puLi (a.2.2.1, a.2.2.2.1) (b.2.2.1, b.2.2.2.1)) a.2.2.1 b.2.2.1 = (puTo a b).1 := by rw [← et, puE_1]
  have et2 : puE (puLi (a.2.2.1, a.2.2.2.1) (b.2.2.1, b.2.2.2.1)) a.2.2.2.1 b.2.2.2.1 = (puTo a b).2 := by rw [← et, puE_2]
  unfold fX11_sharesLine
  simp (disch := omega) only [xsCk_in, puI_lit, puI_cl0, puI_cl1, puI_cl2, puI_cl3, h1, h2, h3, h4, q1, q2, q3, q4]
  rw [p_isAhead (by omega) (by omega) (by omega) (by omega)]
  simp (disch := omega) only [xsCk_in, puI_lit, puI_cl0, puI_cl1, puI_cl2, puI_cl3, h1, h2, h3, h4, q1, q2, q3, q4, puB_0p, xsBr_not, xsBr_some, puE_fn puI, puE_not, xsBd_sm, fX11_sharesLine_J52, xsLt_eq, ef1, ef2, fX11_sharesLine_J77]
  rw [p_isAhead (by omega) (by omega) (by omega) (by omega)]
  simp (disch := omega) only [xsCk_in, puI_lit, puI_cl0, puI_cl1, puI_cl2, puI_cl3, h1, h2, h3, h4, q1, q2, q3, q4, puB_0p, xsBr_not, xsBr_some, puE_fn puI, puE_not, xsBd_sm, xsLt_eq, et1, et2, fX11_sharesLine_J130, fX11_sharesLine_J155]
  have w3 : upd (upd (upd (upd sh 0 (puI (puFr a b).1)) 1 (puI (puFr a b).2)) 2 (puI (puTo a b).1)) 3 (puI (puTo a b).2) 3 = puI (puTo a b).2 := puUpd_eq _ _ _
  have w2 : upd (upd (upd (upd sh 0 (puI (puFr a b).1)) 1 (puI (puFr a b).2)) 2 (puI (puTo a b).1)) 3 (puI (puTo a b).2) 2 = puI (puTo a b).1 := by rw [puUpd_ne (by decide), puUpd_eq]
  have w1 : upd (upd (upd (upd sh 0 (puI (puFr a b).1)) 1 (puI (puFr a b).2)) 2 (puI (puTo a b).1)) 3 (puI (puTo a b).2) 1 = puI (puFr a b).2 := by rw [puUpd_ne (by decide), puUpd_ne (by decide), puUpd_eq]
  have w0 : upd (upd (upd (upd sh 0 (puI (puFr a b).1)) 1 (puI (puFr a b).2)) 2 (puI (puTo a b).1)) 3 (puI (puTo a b).2) 0 = puI (puFr a b).1 := by rw [puUpd_ne (by decide), puUpd_ne (by decide), puUpd_ne (by decide), puUpd_eq]
  generalize upd (upd (upd (upd sh 0 (puI (puFr a b).1)) 1 (puI (puFr a b).2)) 2 (puI (puTo a b).1)) 3 (puI (puTo a b).2) = z at *
  rw [w0, w1, w2, w3, p_isAhead (by omega) (by omega) (by omega) (by omega), p_isMere w0 w1 w2 w3 (by omega) (by omega) (by omega) (by omega)]
  simp only [xsBd_sm, puB_0p, xsBr_not]
  have ek : puKd a b = puKa a b := by unfold puKd puKa; rw [puE_pos hD]
  unfold puKa at ek
  rw [puE_pos hl] at ek
  have em : puMp a b = puC (puFr a b) := by unfold puMp; rw [puE_pos hD]
  show puOk (xsBr (puLi (puTo a b) (puFr a b)) _ _) _
  by_cases c1 : puLi (puTo a b) (puFr a b)
  · rw [xsBr_pos c1]
    have n1 : ¬ puFr a b = puTo a b := by intro q; rw [q] at c1; unfold puLi at c1; omega
    have n2 : ¬ puLi (puFr a b) (puTo a b) := by intro q; unfold puLi at c1 q; omega
    rw [puE_neg n1, puE_neg n2] at ek
    refine puOk_some ⟨by rw [ek]; rfl, fun h => ?_, fun h => ?_⟩
    · rw [ek] at h; exact absurd h (by decide)
    · rw [ek] at h; exact absurd h (by decide)
  · rw [xsBr_neg c1]
    show puOk (xsBr (puFr a b = puTo a b) _ _) _
    by_cases c2 : puFr a b = puTo a b
    · rw [xsBr_pos c2]
      rw [puE_pos c2] at ek
      simp (disch := omega) only [puI_l]
      refine puOk_bd (p_sharesPoint (puFr_rep va' vb')) (fun v hv => puOk_some ⟨?_, ?_, ?_⟩)
      · rw [ek]; exact hv.1
      · intro _; rw [em]; exact hv.2
      · intro h; rw [ek] at h; exact absurd h (by decide)
    · rw [xsBr_neg c2]
      have n2 : puLi (puFr a b) (puTo a b) := by
        apply Classical.byContradiction; intro q
        apply c2
        unfold puLi at c1 q
        exact Prod.ext (by omega) (by omega)
      rw [puE_neg c2, puE_pos n2] at ek
      refine puOk_some ⟨by rw [ek]; rfl, fun h => ?_, fun _ => ⟨w0, w1, w2, w3⟩⟩
      rw [ek] at h; exact absurd h (by decide)
/-- a mere point: only itself -/
theorem puMere {a : puS} (va : puV a) (h : puAi a = puZi a) {p : puP} (hp : puOn a p) : p = puA a := by
  have e : puZ a = puA a := by show puC (puZi a) = puC (puAi a); rw [h]
  have h2 := hp.2.2
  rw [e] at h2
  exact puLe_as h2 hp.2.1
theorem puMere_kd {a b : puS} (va : puV a) (vb : puV b) (h : puAi a = puZi a) : (puOn b (puA a) → puKd a b = 1 ∧ puMp a b = puA a) ∧ (¬ puOn b (puA a) → puKd a b = 0) := by
  have l := puKd_le a b
  have n2 : puKd a b ≠ 2 := by
    intro q
    obtain ⟨-, -, -, p, r, ne, p1, -, r1, -⟩ := puKd_2 va vb q
    exact ne ((puMere va h p1).trans (puMere va h r1).symm)
  constructor
  · intro hb
    have n0 := puKd_0 va vb (puOn_A va) hb
    have e1 : puKd a b = 1 := by omega
    exact ⟨e1, ((puKd_1 va vb e1).2.2 _ (puOn_A va) hb).symm⟩
  · intro hb
    have n1 : puKd a b ≠ 1 := by
      intro q
      obtain ⟨k1, k2, -⟩ := puKd_1 va vb q
      rw [puMere va h k1] at k2; exact hb k2
    omega
theorem puIl_one {a b : puS} (hD : puD a b = 0) (hm : ¬ puAi a = puZi a) : puGX a b * puH a = puGY a b * puW a ↔ puIl a b := by
  refine ⟨fun h => ⟨h, ?_⟩, fun h => h.1⟩
  have hwh : puW a ≠ 0 ∨ puH a ≠ 0 := by
    apply Classical.byContradiction; intro q
    apply hm
    unfold puW puH at q
    unfold puAi puZi
    exact Prod.ext (by show a.1 = a.2.2.1; omega) (by show a.2.1 = a.2.2.2.1; omega)
  unfold puD at hD
  generalize puGX a b = gx at *
  generalize puGY a b = gy at *
  generalize puW a = w at *
  generalize puH a = r at *
  generalize puW b = v at *
  generalize puH b = s at *
  rcases hwh with k | k
  · have : (gx * s - gy * v) * w = 0 := by grind
    have := (Int.mul_eq_zero.mp this).resolve_right k
    omega
  · have : (gx * s - gy * v) * r = 0 := by grind
    have := (Int.mul_eq_zero.mp this).resolve_right k
    omega
theorem p_shares {f g sh : Nat → Int32} {a b : puS} (ha : puM4 f a) (hb : puM4 g b) (va : puV a) (vb : puV b) {x0 y0 d0 : Int64} : puOk (fX11_shares f g sh x0 y0 d0) (puSr a b) := by
  have hm := p_isMere1 ha va
  obtain ⟨d1, d2, d3⟩ := puD_bd va vb
  have pr := puT_prods va vb
  have va' := va; have vb' := vb; have ha' := ha; have hb' := hb
  obtain ⟨h1, h2, h3, h4⟩ := ha
  obtain ⟨q1, q2, q3, q4⟩ := hb
  obtain ⟨⟨a1, a2, a3, a4⟩, -, -⟩ := va
  obtain ⟨⟨b1, b2, b3, b4⟩, -, -⟩ := vb
  unfold fX11_shares
  rw [hm]
  simp (disch := omega) only [xsLt_eq, xsBd_sm, xsCk_in, puI_lit, puJ_lit, puI_add, puI_sub, puI_mul, puI_neg, puJ_add, puJ_sub, puJ_mul, puJ_neg, puI_l, puI_clN, puI_cl0, puI_cl1, puI_cl2, puI_cl3, puI_cl4, h1, h2, h3, h4, q1, q2, q3, q4, puB_0p, xsBr_not]
  have eD : (a.2.2.1 - a.1) * (b.2.2.2.1 - b.2.1) - (a.2.2.2.1 - a.2.1) * (b.2.2.1 - b.1) = puD a b := rfl
  have eT : (b.1 - a.1) * (b.2.2.2.1 - b.2.1) - (b.2.1 - a.2.1) * (b.2.2.1 - b.1) = puT a b := rfl
  have eU : (b.1 - a.1) * (a.2.2.2.1 - a.2.1) - (b.2.1 - a.2.1) * (a.2.2.1 - a.1) = puU a b := rfl
  rw [eD, eT, eU]
  by_cases hD : puD a b = 0
  · rw [xsBr_pos (by rw [hD])]
    by_cases c : puAi a = puZi a
    · rw [xsBr_pos c]
      have rA : puRep (puJ a.1) (puJ a.2.1) (puJ 1) (puA a) := ⟨_, _, 1, rfl, rfl, rfl, by omega, ⟨(Rat.mul_one _).symm, (Rat.mul_one _).symm⟩, by omega, by omega⟩
      rw [p_isOn hb' vb' rA]
      simp only [xsBd_sm, puB_0p, xsBr_not]
      obtain ⟨k1, k2⟩ := puMere_kd va' vb' c
      by_cases cb : puOn b (puA a)
      · rw [xsBr_pos cb]
        obtain ⟨e1, e2⟩ := k1 cb
        refine puOk_bd (p_sharesPoint rA) (fun v hv => puOk_some ⟨?_, ?_, ?_⟩)
        · rw [e1]; exact hv.1
        · intro _; rw [e2]; exact hv.2
        · intro h; rw [e1] at h; exact absurd h (by decide)
      · rw [xsBr_neg cb]
        have e1 := k2 cb
        refine puOk_some ⟨by rw [e1]; rfl, fun h => ?_, fun h => ?_⟩
        · rw [e1] at h; exact absurd h (by decide)
        · rw [e1] at h; exact absurd h (by decide)
    · rw [xsBr_neg c]
      have il := puIl_one hD c
      unfold puGX puGY puH puW at il
      unfold puH puW at pr
      have : puJ ((b.1 - a.1) * (a.2.2.2.1 - a.2.1)) = puJ ((b.2.1 - a.2.1) * (a.2.2.1 - a.1)) ↔ puIl a b := by
        rw [puJ_eq (by omega) (by omega) (by omega) (by omega)]; exact il
      rw [xsBr_iff this, xsBr_10p]
      simp only [xsBd_sm, fX11_shares_J180]
      by_cases c2 : puIl a b
      · rw [xsBr_neg (by rw [puB_pos c2]; decide)]
        refine puOk_bd (p_sharesLine ha' hb' va' vb' hD c2) (fun v hv => puOk_some hv)
      · rw [xsBr_pos (by rw [puB_neg c2])]
        have e1 : puKd a b = 0 := by unfold puKd; rw [puE_pos hD, puE_neg c2]
        refine puOk_some ⟨by rw [e1]; rfl, fun h => ?_, fun h => ?_⟩
        · rw [e1] at h; exact absurd h (by decide)
        · rw [e1] at h; exact absurd h (by decide)
  · rw [xsBr_neg (by rw [puJ_eq (by omega) (by omega) (by omega) (by omega)]; exact hD)]
    have key : ∀ g : Int, (g = 1 ∧ 0 < puD a b ∨ g = -1 ∧ puD a b < 0) → puOk (fX11_shares_J266 f sh x0 y0 d0 (puJ (a.2.2.1 - a.1)) (puJ (a.2.2.2.1 - a.2.1)) (puJ (puD a b)) (puJ (puT a b)) (puJ (puU a b)) (puJ g)) (puSr a b) := by
      intro g hg
      have g1 : -7984008 ≤ g * puD a b ∧ g * puD a b ≤ 7984008 := by rcases hg with ⟨rfl, _⟩ | ⟨rfl, _⟩ <;> omega
      have g2 : -7984008 ≤ g * puT a b ∧ g * puT a b ≤ 7984008 := by rcases hg with ⟨rfl, _⟩ | ⟨rfl, _⟩ <;> omega
      have g3 : -7984008 ≤ g * puU a b ∧ g * puU a b ≤ 7984008 := by rcases hg with ⟨rfl, _⟩ | ⟨rfl, _⟩ <;> omega
      unfold fX11_shares_J266
      simp (disch := omega) only [xsCk_in, puI_lit, puJ_lit, puI_add, puI_sub, puI_mul, puI_neg, puJ_add, puJ_sub, puJ_mul, puJ_neg, puI_l, puI_clN, puI_cl0, puI_cl1, puI_cl2, puI_cl3, puI_cl4, h1, h2]
      rw [p_in (by omega) (by omega) (by omega), p_in (by omega) (by omega) (by omega)]
      simp only [xsBd_sm, puB_0p, xsBr_not]
      have ein : ((0 ≤ g * puT a b ∧ g * puT a b ≤ g * puD a b) ∧ (0 ≤ g * puU a b ∧ g * puU a b ≤ g * puD a b)) ↔ puIn a b := by
        unfold puIn
        rcases hg with ⟨rfl, _⟩ | ⟨rfl, _⟩ <;> omega
      have e0 : ¬ puIn a b → puOk (some ((puI 0), sh, x0, y0, d0)) (puSr a b) := by
        intro c
        have e1 : puKd a b = 0 := by unfold puKd; rw [puE_neg hD, puE_neg c]
        refine puOk_some ⟨by rw [e1]; rfl, fun h => ?_, fun h => ?_⟩
        · rw [e1] at h; exact absurd h (by decide)
        · rw [e1] at h; exact absurd h (by decide)
      by_cases c1 : 0 ≤ g * puT a b ∧ g * puT a b ≤ g * puD a b
      · rw [xsBr_pos c1]
        by_cases c2 : 0 ≤ g * puU a b ∧ g * puU a b ≤ g * puD a b
        · rw [xsBr_pos c2]
          have e1 : puKd a b = 1 := by unfold puKd; rw [puE_neg hD, puE_pos (ein.mp ⟨c1, c2⟩)]
          have rp := puMp_rep va' vb' e1 hD hg
          have x1 : g * (a.1 * puD a b + puT a b * (a.2.2.1 - a.1)) = a.1 * (g * puD a b) + g * puT a b * puW a := by unfold puW; grind
          have x2 : g * (a.2.1 * puD a b + puT a b * (a.2.2.2.1 - a.2.1)) = a.2.1 * (g * puD a b) + g * puT a b * puH a := by unfold puH; grind
          rw [x1, x2]
          refine puOk_bd (p_sharesPoint rp) (fun v hv => puOk_some ⟨?_, ?_, ?_⟩)
          · rw [e1]; exact hv.1
          · intro _; exact hv.2
          · intro h; rw [e1] at h; exact absurd h (by decide)
        · rw [xsBr_neg c2]; exact e0 (fun q => c2 (ein.mpr q).2)
      · rw [xsBr_neg c1]; exact e0 (fun q => c1 (ein.mpr q).1)
    rcases Int.lt_trichotomy (puD a b) 0 with hs | hs | hs
    · rw [xsBr_neg (by rw [puJ_le (by omega) (by omega) (by omega) (by omega)]; omega)]
      simp only [xsBd_sm]
      exact key (-1) (Or.inr ⟨rfl, hs⟩)
    · exact absurd hs hD
    · rw [xsBr_pos (by rw [puJ_le (by omega) (by omega) (by omega) (by omega)]; omega)]
      simp only [xsBd_sm]
      exact key 1 (Or.inl ⟨rfl, hs⟩)
