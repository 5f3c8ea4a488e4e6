/-! PURE: the reference's world, its small texts -/
abbrev puG : Type := Nat → puS
def puM5 (w : Nat → Int32) (at0 : Nat) (q : puS) : Prop := w at0 = puI q.1 ∧ w (at0 + 1) = puI q.2.1 ∧ w (at0 + 2) = puI q.2.2.1 ∧ w (at0 + 3) = puI q.2.2.2.1 ∧ w (at0 + 4) = puI q.2.2.2.2
def puVal (n : Nat) (G : puG) : Prop := n ≤ 24 ∧ ∀ s, s < n → puV (G s)
def puMW (n : Nat) (G : puG) (w : Nat → Int32) : Prop := w 0 = puI (n : Int) ∧ ∀ s, s < n → puM5 w (1 + 5 * s) (G s)
/-- the class's rows -/
def puKW (n : Nat) (G : puG) (lx ly rx ry : Nat → Int32) : Prop := ∀ s, s < n → puQ lx ly rx ry s (G s)
theorem p_many {n : Nat} {G : puG} {w : Nat → Int32} (h : puMW n G w) : fX11_many w = some (puI (n : Int)) := by
  unfold fX11_many
  rw [show (0 : Int32) = puI 0 by rfl, xsCk_in (by omega) (by omega) (by omega), puI_cl0, h.1]
theorem p_of {w : Nat → Int32} {s k : Nat} (hs : s < 24) (hk : k < 5) : fX11_of w (puI (s : Int)) (puI (k : Int)) = some (w (1 + 5 * s + k)) := by
  unfold fX11_of
  have e : (1 : Int32) + (5 : Int32) * puI (s : Int) + puI (k : Int) = puI ((1 + 5 * s + k : Nat) : Int) := by
    rw [show (1 : Int32) = puI 1 by rfl, show (5 : Int32) = puI 5 by rfl, puI_mul, puI_add, puI_add]; congr 1
  rw [e, xsCk_in (by omega) (by omega) (by omega), puI_clN (by omega)]
theorem p_of0 {w : Nat → Int32} {s : Nat} (hs : s < 24) : fX11_of w (puI (s : Int)) (0 : Int32) = some (w (1 + 5 * s)) := p_of (k := 0) hs (by decide)
theorem p_of1 {w : Nat → Int32} {s : Nat} (hs : s < 24) : fX11_of w (puI (s : Int)) (1 : Int32) = some (w (1 + 5 * s + 1)) := p_of (k := 1) hs (by decide)
theorem p_of2 {w : Nat → Int32} {s : Nat} (hs : s < 24) : fX11_of w (puI (s : Int)) (2 : Int32) = some (w (1 + 5 * s + 2)) := p_of (k := 2) hs (by decide)
theorem p_of3 {w : Nat → Int32} {s : Nat} (hs : s < 24) : fX11_of w (puI (s : Int)) (3 : Int32) = some (w (1 + 5 * s + 3)) := p_of (k := 3) hs (by decide)
theorem p_of4 {w : Nat → Int32} {s : Nat} (hs : s < 24) : fX11_of w (puI (s : Int)) (4 : Int32) = some (w (1 + 5 * s + 4)) := p_of (k := 4) hs (by decide)
theorem p_takes {w f : Nat → Int32} {s : Nat} {q : puS} (hs : s < 24) (h : puM5 w (1 + 5 * s) q) : puOk (fX11_takes w f (puI (s : Int))) (fun g => puM4 g q) := by
  have key : puOk (xsWh (fun s3 => fX11_takes_L2 w (puI (s : Int)) s3.1 s3.2) ((0 : Int32), f)) (fun g => ∀ j, j < 4 → g j = w (1 + 5 * s + j)) := by
    refine puFor1 4 (fun k z => z.1 = puI (k : Int) ∧ ∀ j, j < k → z.2 j = w (1 + 5 * s + j)) _ ⟨rfl, fun j hj => by omega⟩ ?_ ?_
    · rintro k ⟨i, g⟩ hk ⟨rfl, hg⟩
      simp only [fX11_takes_L2]
      rw [xsBr_neg (by rw [puI_lit, puI_le (by omega) (by omega) (by omega) (by omega)]; omega), p_of hs (by omega)]
      simp only [xsBd_sm]
      rw [xsCk_in (by omega) (by omega) (by omega), xsLt_eq, xsLt_eq, puI_clN (by omega), puI_s1]
      refine ⟨_, rfl, rfl, fun j hj => ?_⟩
      by_cases e : j = k
      · subst e; exact puUpd_eq _ _ _
      · show upd g k _ j = _
        rw [puUpd_ne e]; exact hg j (by omega)
    · rintro ⟨i, g⟩ ⟨rfl, hg⟩
      simp only [fX11_takes_L2]
      rw [xsBr_pos (by rw [puI_lit, puI_le (by omega) (by omega) (by omega) (by omega)]; omega)]
      exact ⟨_, rfl, hg⟩
  obtain ⟨g, e, hg⟩ := key
  unfold fX11_takes
  rw [xsBd_some e]
  obtain ⟨h0, h1, h2, h3, h4⟩ := h
  exact puOk_some ⟨by rw [hg 0 (by decide)]; exact h0, by rw [hg 1 (by decide)]; exact h1, by rw [hg 2 (by decide)]; exact h2, by rw [hg 3 (by decide)]; exact h3⟩
theorem p_takes1 {w f : Nat → Int32} {s : Nat} {q : puS} (hs : s < 24) (h : puM5 w (1 + 5 * s) q) : puOk (fX11_takes_v1 w f (puI (s : Int))) (fun g => puM4 g q) := p_takes hs h
theorem p_sharesOf {n : Nat} {G : puG} {w one two sh : Nat → Int32} {x y d : Int64} (hv : puVal n G) (h : puMW n G w) {a b : Nat} (ha : a < n) (hb : b < n) : puOk (fX11_sharesOf w one two sh x y d (puI (a : Int)) (puI (b : Int))) (fun o => puSr (G a) (G b) (o.1, o.2.2.2.1, o.2.2.2.2.1, o.2.2.2.2.2.1, o.2.2.2.2.2.2)) := by
  have := hv.1
  unfold fX11_sharesOf
  refine puOk_bd (p_takes (by omega) (h.2 a ha)) (fun f hf => puOk_bd (p_takes1 (by omega) (h.2 b hb)) (fun g hg => puOk_bd (p_shares hf hg (hv.2 a ha) (hv.2 b hb)) (fun v hv => puOk_some hv)))
theorem p_has {n : Nat} {G : puG} {w one : Nat → Int32} {ex ey ed : Nat → Int64} {N : Nat} {P : Nat → puP} (hv : puVal n G) (h : puMW n G w) (he : puEvs N P ex ey ed) {s k : Nat} (hs : s < n) (hk : k < N) (hN : N ≤ 330) : puOk (fX11_has w one ex ey ed (puI (s : Int)) (puI (k : Int))) (fun o => o.1 = puB (puOn (G s) (P k))) := by
  have := hv.1
  unfold fX11_has
  refine puOk_bd (p_takes (by omega) (h.2 s hs)) (fun f hf => ?_)
  rw [xsCk_in (by omega) (by omega) (by omega), xsCk_in (by omega) (by omega) (by omega), xsCk_in (by omega) (by omega) (by omega), puI_clN (by omega), p_isOn1 hf (hv.2 s hs) (he k hk), xsBd_sm, xsCk_pos (puB_xsB _)]
  exact puOk_some rfl
theorem puCp_neg (p q : puP) : puCp p q = puE (puLt p q) (-1) (puE (p = q) 0 1) := rfl
theorem p_against {a0 a1 a2 b0 b1 b2 : Int64} {p q : puP} (h : puRep a0 a1 a2 p) (hr : puRep b0 b1 b2 q) : fX11_against a0 a1 a2 b0 b1 b2 = some (puI (puCp p q)) := by
  obtain ⟨X, Y, D, rfl, rfl, rfl, hD, ⟨q1, q2⟩, bX, bY⟩ := h
  obtain ⟨X', Y', D', rfl, rfl, rfl, hD', ⟨r1, r2⟩, bX', bY'⟩ := hr
  obtain ⟨g1, g2⟩ := pg_cmp hD.1 hD'.1 q1 r1
  obtain ⟨g3, g4⟩ := pg_cmp hD.1 hD'.1 q2 r2
  have b1 := puRep_bd2 hD hD' bX
  have b2 := puRep_bd2 hD hD' bY
  have b3 := puRep_bd2 hD' hD bX'
  have b4 := puRep_bd2 hD' hD bY'
  unfold fX11_against
  simp only [puJ_mul, puJ_sub, xsLt_eq]
  generalize X * D' = u1 at *
  generalize X' * D = u2 at *
  generalize Y * D' = u3 at *
  generalize Y' * D = u4 at *
  have tail : ∀ v : Int, -900000000000000000 ≤ v → v ≤ 900000000000000000 → fX11_against_J34 (puJ v) = some (puI (if v < 0 then -1 else if v = 0 then 0 else 1)) := by
    intro v v1 v2
    unfold fX11_against_J34
    simp (disch := omega) only [puJ_lit, puI_lit, puI_neg, puJ_le]
    by_cases c1 : v < 0
    · rw [xsBr_neg (by omega), if_pos c1]
    · rw [xsBr_pos (by omega), if_neg c1]
      by_cases c2 : v = 0
      · rw [xsBr_pos (by omega), if_pos c2]
      · rw [xsBr_neg (by omega), if_neg c2]
  rw [show (0 : Int64) = puJ 0 by rfl]
  by_cases c1 : u1 = u2
  · rw [xsBr_pos (by rw [puJ_eq (by omega) (by omega) (by omega) (by omega)]; omega)]
    simp only [xsBd_sm]
    rw [tail _ (by omega) (by omega)]
    have ep := g2.mp c1
    by_cases c3 : u3 < u4
    · rw [if_pos (by omega)]
      have : puLt p q := Or.inr ⟨ep, g3.mp c3⟩
      unfold puCp; rw [puE_pos this]
    · rw [if_neg (by omega)]
      have n1 : ¬ puLt p q := by
        rintro (z | ⟨-, z⟩)
        · have := g1.mpr z; omega
        · exact c3 (g3.mpr z)
      by_cases c4 : u3 = u4
      · rw [if_pos (by omega)]
        have : p = q := Prod.ext ep (g4.mp c4)
        unfold puCp; rw [puE_neg n1, puE_pos this]
      · rw [if_neg (by omega)]
        have : ¬ p = q := fun z => c4 (g4.mpr (by rw [z]))
        unfold puCp; rw [puE_neg n1, puE_neg this]
  · rw [xsBr_neg (by rw [puJ_eq (by omega) (by omega) (by omega) (by omega)]; omega)]
    simp only [xsBd_sm]
    rw [tail _ (by omega) (by omega)]
    have : ¬ p = q := fun z => c1 (g2.mpr (by rw [z]))
    by_cases c3 : u1 < u2
    · rw [if_pos (by omega)]
      have : puLt p q := Or.inl (g1.mp c3)
      unfold puCp; rw [puE_pos this]
    · rw [if_neg (by omega), if_neg (by omega)]
      have n1 : ¬ puLt p q := by
        rintro (z | ⟨z, -⟩)
        · exact c3 (g1.mpr z)
        · exact c1 (g2.mpr z)
      unfold puCp; rw [puE_neg n1, puE_neg this]
/-- a point put among the reference's events -/
theorem p_stands {N : Nat} {P : Nat → puP} {x y d : Nat → Int64} {cr : Nat → Int32} {p : puP} {a0 a1 a2 : Int64} {f : puP → Int32} (h : puEvs N P x y d) (hs : puSo N P) (hr : puRep a0 a1 a2 p) (hN : N < 330) (hc : ∀ e, e < N → cr e = f (P e)) (hf : ¬ puMe N P p → f p = (-1 : Int32)) :
    puOk (fX11_stands x y d (puI (N : Int)) cr a0 a1 a2) (fun o => ∃ M Q, o.2.2.2.2.1 = puI (M : Nat) ∧ puEvs M Q o.2.1 o.2.2.1 o.2.2.2.1 ∧ puSo M Q ∧ (∀ q, puMe M Q q ↔ q = p ∨ puMe N P q) ∧ M ≤ N + 1 ∧ (∃ j, j < M ∧ o.1 = puI (j : Nat) ∧ Q j = p) ∧ ∀ e, e < M → o.2.2.2.2.2 e = f (Q e)) := by
  have hle := puIx_le N P p
  have hme := @puIx_me N P hs p
  have hlt := fun {k} hk => @puIx_lt N P hs p k hk
  have k1 : xsWh (fun s2 => fX11_stands_L3 x y d (puI (N : Int)) a0 a1 a2 s2) (0 : Int32) = some (puI (puIx N P p : Int)) := by
    refine puForS (puIx N P p) (fun k => puI (k : Int)) _ ?_ ?_
    · intro k hk
      simp only [fX11_stands_L3]
      rw [xsBr_neg (by rw [puI_leN (by omega) (by omega)]; omega), xsCk_in (by omega) (by omega) (by omega), xsCk_in (by omega) (by omega) (by omega), xsCk_in (by omega) (by omega) (by omega), puI_clN (by omega), p_against (h k (by omega)) hr, xsBd_sm]
      have cb := puCp_bd (P k) p
      have := puCp_lt.mpr ((hlt (by omega)).mpr hk)
      rw [xsBr_neg (by rw [show (0 : Int32) = puI 0 by rfl, puI_le (by omega) (by omega) (by omega) (by omega)]; omega), xsLt_eq, puI_s1]
    · simp only [fX11_stands_L3]
      by_cases c : puIx N P p < N
      · rw [xsBr_neg (by rw [puI_leN (by omega) (by omega)]; omega), xsCk_in (by omega) (by omega) (by omega), xsCk_in (by omega) (by omega) (by omega), xsCk_in (by omega) (by omega) (by omega), puI_clN (by omega), p_against (h _ c) hr, xsBd_sm]
        have cb := puCp_bd (P (puIx N P p)) p
        have : ¬ puCp (P (puIx N P p)) p < 0 := fun q => by have := (hlt c).mp (puCp_lt.mp q); omega
        rw [xsBr_pos (by rw [show (0 : Int32) = puI 0 by rfl, puI_le (by omega) (by omega) (by omega) (by omega)]; omega)]
      · rw [xsBr_pos (by rw [puI_leN (by omega) (by omega)]; omega)]
  unfold fX11_stands
  rw [xsBd_some k1]
  have newp : ¬ puMe N P p → puOk (fX11_stands_J92 x y d (puI (N : Int)) cr a0 a1 a2 (puI (puIx N P p : Int))) (fun o => ∃ M Q, o.2.2.2.2.1 = puI (M : Nat) ∧ puEvs M Q o.2.1 o.2.2.1 o.2.2.2.1 ∧ puSo M Q ∧ (∀ q, puMe M Q q ↔ q = p ∨ puMe N P q) ∧ M ≤ N + 1 ∧ (∃ j, j < M ∧ o.1 = puI (j : Nat) ∧ Q j = p) ∧ ∀ e, e < M → o.2.2.2.2.2 e = f (Q e)) := by
    intro c
    have kl : xsWh (fun s9 => fX11_stands_L98 (puI (puIx N P p : Int)) s9.1 s9.2.1 s9.2.2.1 s9.2.2.2.1 s9.2.2.2.2) (puI ((N - 0 : Nat) : Int), puMv x (N - 0) N, puMv y (N - 0) N, puMv d (N - 0) N, puMv cr (N - 0) N) = some (puMv x (puIx N P p) N, puMv y (puIx N P p) N, puMv d (puIx N P p) N, puMv cr (puIx N P p) N) := by
      refine puForS (N - puIx N P p) (fun i => (puI ((N - i : Nat) : Int), puMv x (N - i) N, puMv y (N - i) N, puMv d (N - i) N, puMv cr (N - i) N)) _ ?_ ?_
      · intro i hi
        obtain ⟨m, hm⟩ : ∃ m, N - i = m + 1 := ⟨N - i - 1, by omega⟩
        have hm2 : N - (i + 1) = m := by omega
        simp only [fX11_stands_L98, hm, hm2]
        rw [xsBr_neg (by rw [puI_leN (by omega) (by omega)]; omega)]
        have es : puI ((m + 1 : Nat) : Int) - (1 : Int32) = puI (m : Int) := by
          rw [show (1 : Int32) = puI 1 by rfl, puI_sub, show ((m + 1 : Nat) : Int) - 1 = (m : Int) by omega]
        have es2 : puI ((m + 1 : Nat) : Int) + (-1 : Int32) = puI (m : Int) := by
          rw [show (-1 : Int32) = puI (-1) by rfl, puI_add, show ((m + 1 : Nat) : Int) + -1 = (m : Int) by omega]
        simp only [es, es2]
        simp (disch := omega) only [xsCk_in, xsLt_eq, puI_clN]
        rw [puMv_sL (by omega), puMv_sL (by omega), puMv_sL (by omega), puMv_sI (by omega)]
      · simp only [fX11_stands_L98]
        rw [show N - (N - puIx N P p) = puIx N P p by omega, xsBr_pos (by rw [puI_leN (by omega) (by omega)]; omega)]
    rw [Nat.sub_zero, puMv_0, puMv_0, puMv_0, puMv_0] at kl
    unfold fX11_stands_J92
    rw [xsBd_some kl]
    simp only [fX11_stands_J175]
    simp (disch := omega) only [xsCk_in, xsLt_eq, puI_clN]
    rw [puMv_eL, puMv_eL, puMv_eL, puMv_eI, puI_s1]
    refine puOk_some ⟨N + 1, puSh P (puIx N P p) N p, rfl, puEvs_ins h hr hle, puIns_so hs c, fun q => puIns_me hle, Nat.le_refl _, ⟨puIx N P p, by omega, rfl, puSh_at⟩, fun e he => ?_⟩
    dsimp only
    by_cases a : e < puIx N P p
    · rw [puSh_lo a, puSh_lo a]; exact hc e (by omega)
    · by_cases b : e = puIx N P p
      · rw [b, puSh_at, puSh_at]; exact (hf c).symm
      · rw [puSh_hi (by omega) (by omega), puSh_hi (by omega) (by omega)]; exact hc _ (by omega)
  unfold fX11_stands_J49
  by_cases c : puIx N P p < N
  · rw [xsBr_neg (by rw [puI_leN (by omega) (by omega)]; omega), xsCk_in (by omega) (by omega) (by omega), xsCk_in (by omega) (by omega) (by omega), xsCk_in (by omega) (by omega) (by omega), puI_clN (by omega), p_against (h _ c) hr, xsBd_sm]
    have cb := puCp_bd (P (puIx N P p)) p
    by_cases e : P (puIx N P p) = p
    · rw [xsBr_pos (by rw [puCp_eq.mpr e]; rfl)]
      have hm : puMe N P p := ⟨_, c, e⟩
      exact puOk_some ⟨N, P, rfl, h, hs, fun q => ⟨Or.inr, fun z => z.elim (fun e => e ▸ hm) id⟩, by omega, ⟨_, c, rfl, e⟩, hc⟩
    · rw [xsBr_neg (by rw [show (0 : Int32) = puI 0 by rfl, puI_eq (by omega) (by omega) (by omega) (by omega), puCp_eq]; exact e)]
      exact newp (fun q => e (hme.mp q).2)
  · rw [xsBr_pos (by rw [puI_leN (by omega) (by omega)]; omega)]
    exact newp (fun q => c (hme.mp q).1)
