/-! PURE: the reference lays its picture -/
noncomputable def puFl (G : puG) (C : Nat → Nat → Prop) (q : puP) : Int32 := puE (∃ a b, C a b ∧ puKd (G a) (G b) = 1 ∧ q = puMp (G a) (G b)) (0 : Int32) (-1 : Int32)
/-- what stands of the reference's picture -/
def puMd (G : puG) (E : Nat → Prop) (C : Nat → Nat → Prop) (b : Nat) (ex ey ed : Nat → Int64) (sz : Int32) (cr : Nat → Int32) : Prop :=
  ∃ N P, sz = puI (N : Nat) ∧ puEvs N P ex ey ed ∧ puSo N P ∧ (∀ p, puMe N P p ↔ puPk G E C p) ∧ N ≤ b ∧ ∀ e, e < N → cr e = puFl G C (P e)
theorem puMd_c {G : puG} {E F : Nat → Prop} {C D : Nat → Nat → Prop} {b b' : Nat} {ex ey ed : Nat → Int64} {sz : Int32} {cr : Nat → Int32} (h : puMd G E C b ex ey ed sz cr) (e : ∀ s, E s ↔ F s) (c : ∀ x y, C x y ↔ D x y) (hb : b ≤ b') : puMd G F D b' ex ey ed sz cr := by
  obtain ⟨N, P, h1, h2, h3, h4, h5, h6⟩ := h
  refine ⟨N, P, h1, h2, h3, fun p => (h4 p).trans (puPk_c e c p), by omega, fun k hk => (h6 k hk).trans ?_⟩
  unfold puFl
  refine puE_iff ?_
  simp only [c]
theorem p_lays20 {n : Nat} {G : puG} {w : Nat → Int32} (hv : puVal n G) (hw : puMW n G w) {ex ey ed : Nat → Int64} {cr : Nat → Int32} :
    puOk (xsWh (fun s7 => fX11_lays_L20 w s7.1 s7.2.1 s7.2.2.1 s7.2.2.2.1 s7.2.2.2.2.1 s7.2.2.2.2.2) ((0 : Int32), ex, ey, ed, (0 : Int32), cr)) (fun r => puMd G (fun s => s < n) (fun _ _ => False) (2 * n) r.1 r.2.1 r.2.2.1 r.2.2.2.1 r.2.2.2.2) := by
  have hn := hv.1
  refine puFor1 n (fun k z => z.1 = puI (k : Int) ∧ puMd G (fun s => s < k) (fun _ _ => False) (2 * k) z.2.1 z.2.2.1 z.2.2.2.1 z.2.2.2.2.1 z.2.2.2.2.2) _ ⟨rfl, 0, fun _ => (0, 0), rfl, fun k hk => by omega, fun i j _ hj => by omega, fun p => ⟨fun ⟨k, hk, _⟩ => by omega, ?_⟩, Nat.le_refl _, fun e he => by omega⟩ ?_ ?_
  · rintro (⟨s, hs, -⟩ | ⟨x, y, hxy, -⟩)
    · omega
    · exact hxy.elim
  · rintro k ⟨i, ex, ey, ed, sz, cr⟩ hk ⟨rfl, N, P, h1, h2, h3, h4, h5, h6⟩
    simp only at h1 h2 h6
    subst h1
    have vk := hv.2 k hk
    obtain ⟨b1, b2, b3, b4⟩ := vk.1
    obtain ⟨w0, w1, w2, w3, -⟩ := hw.2 k hk
    simp only [fX11_lays_L20]
    rw [p_many hw, xsBd_sm, xsBr_neg (by rw [puI_leN (by omega) (by omega)]; omega), p_of0 (by omega), xsBd_sm, p_of1 (by omega), xsBd_sm, w0, w1, puI_l (by omega) (by omega), puI_l (by omega) (by omega), show (1 : Int64) = puJ 1 by rfl]
    have ff : ∀ q, puFl G (fun _ _ => False) q = (-1 : Int32) := fun q => puE_neg (fun ⟨a, b, z, _⟩ => z)
    obtain ⟨o, eo, M, Q, g1, g2, g3, g4, g5, -, g6⟩ := p_stands h2 h3 (puRep_A vk) (show N < 330 by omega) (f := puFl G (fun _ _ => False)) h6 (fun _ => ff _)
    rw [xsBd_some eo, p_of2 (by omega), xsBd_sm, p_of3 (by omega), xsBd_sm, w2, w3, puI_l (by omega) (by omega), puI_l (by omega) (by omega), g1]
    obtain ⟨o2, eo2, M2, Q2, i1, i2, i3, i4, i5, -, i6⟩ := p_stands g2 g3 (puRep_Z vk) (show M < 330 by omega) (f := puFl G (fun _ _ => False)) g6 (fun _ => ff _)
    rw [xsBd_some eo2, xsLt_eq, puI_s1]
    refine ⟨_, rfl, rfl, M2, Q2, i1, i2, i3, fun p => ?_, by omega, i6⟩
    rw [i4, g4, h4]
    unfold puPk
    constructor
    · rintro (q | q | ⟨s, q1, q2⟩ | ⟨x, y, z, -⟩)
      · exact Or.inl ⟨k, by omega, Or.inr q⟩
      · exact Or.inl ⟨k, by omega, Or.inl q⟩
      · exact Or.inl ⟨s, by omega, q2⟩
      · exact z.elim
    · rintro (⟨s, u1, u2⟩ | ⟨x, y, z, -⟩)
      · by_cases e : s = k
        · rw [e] at u2
          exact u2.elim (fun z => Or.inr (Or.inl z)) (fun z => Or.inl z)
        · exact Or.inr (Or.inr (Or.inl ⟨s, by omega, u2⟩))
      · exact z.elim
  · rintro ⟨i, ex, ey, ed, sz, cr⟩ ⟨rfl, h⟩
    simp only [fX11_lays_L20]
    rw [p_many hw, xsBd_sm, xsBr_pos (by rw [puI_leN (by omega) (by omega)]; omega)]
    exact ⟨_, rfl, h⟩
theorem p_lays86 {n : Nat} {G : puG} {w : Nat → Int32} (hv : puVal n G) (hw : puMW n G w) {a : Nat} (ha : a < n) {b0 : Nat} (hb0 : b0 + a ≤ 324) {one two sh : Nat → Int32} {x0 y0 d0 : Int64} {ex ey ed : Nat → Int64} {sz : Int32} {cr : Nat → Int32} (h : puMd G (fun s => s < n) (fun x y => (y < x ∧ x < a) ∨ (x = a ∧ y < 0)) b0 ex ey ed sz cr) :
    puOk (xsWh (fun s120 => fX11_lays_L86 w (puI (a : Int)) s120.1 s120.2.1 s120.2.2.1 s120.2.2.2.1 s120.2.2.2.2.1 s120.2.2.2.2.2.1 s120.2.2.2.2.2.2.1 s120.2.2.2.2.2.2.2.1 s120.2.2.2.2.2.2.2.2.1 s120.2.2.2.2.2.2.2.2.2.1 s120.2.2.2.2.2.2.2.2.2.2.1 s120.2.2.2.2.2.2.2.2.2.2.2) ((0 : Int32), one, two, sh, x0, y0, d0, ex, ey, ed, sz, cr)) (fun r => puMd G (fun s => s < n) (fun x y => (y < x ∧ x < a) ∨ (x = a ∧ y < a)) (b0 + a) r.2.2.2.2.2.2.1 r.2.2.2.2.2.2.2.1 r.2.2.2.2.2.2.2.2.1 r.2.2.2.2.2.2.2.2.2.1 r.2.2.2.2.2.2.2.2.2.2) := by
  have hn := hv.1
  refine puFor1 a (fun j z => z.1 = puI (j : Int) ∧ puMd G (fun s => s < n) (fun x y => (y < x ∧ x < a) ∨ (x = a ∧ y < j)) (b0 + j) z.2.2.2.2.2.2.2.1 z.2.2.2.2.2.2.2.2.1 z.2.2.2.2.2.2.2.2.2.1 z.2.2.2.2.2.2.2.2.2.2.1 z.2.2.2.2.2.2.2.2.2.2.2) _ ⟨rfl, h⟩ ?_ ?_
  · rintro j ⟨jj, one, two, sh, x0, y0, d0, ex, ey, ed, sz, cr⟩ hj ⟨rfl, N, P, h1, h2, h3, h4, h5, h6⟩
    simp only at h1 h2 h6
    subst h1
    have kl := puKd_le (G a) (G j)
    simp only [fX11_lays_L86]
    obtain ⟨o, eo, so⟩ := p_sharesOf hv hw ha (show j < n by omega) (one := one) (two := two) (sh := sh) (x := x0) (y := y0) (d := d0)
    rw [xsBr_neg (by rw [puI_leN (by omega) (by omega)]; omega), xsBd_some eo, so.1]
    by_cases c : puKd (G a) (G j) = 1
    · rw [xsBr_pos (by rw [c]; rfl)]
      obtain ⟨o2, eo2, M, Q, g1, g2, g3, g4, g5, ⟨m, m1, m2, m3⟩, g6⟩ := p_stands h2 h3 (so.2.1 c) (show N < 330 by omega) (f := puFl G (fun x y => (y < x ∧ x < a) ∨ (x = a ∧ y < j))) h6 (fun hno => by
        refine puE_neg ?_
        rintro ⟨x, y, z1, z2, z3⟩
        exact hno ((h4 _).mpr (Or.inr ⟨x, y, z1, z2, z3⟩)))
      rw [xsBd_some eo2, m2, xsCk_in (by omega) (by omega) (by omega), xsLt_eq, puI_clN (by omega), xsBd_sm]
      simp only [fX11_lays_J123]
      rw [xsLt_eq, puI_s1]
      refine ⟨_, rfl, rfl, M, Q, g1, g2, g3, fun p => ?_, by omega, fun e he => ?_⟩
      · rw [g4, h4]
        unfold puPk
        constructor
        · rintro (q | q | ⟨x, y, q1, q2, q3⟩)
          · exact Or.inr ⟨a, j, Or.inr ⟨rfl, by omega⟩, c, q⟩
          · exact Or.inl q
          · exact Or.inr ⟨x, y, by omega, q2, q3⟩
        · rintro (q | ⟨x, y, q1, q2, q3⟩)
          · exact Or.inr (Or.inl q)
          · by_cases e : x = a ∧ y = j
            · obtain ⟨rfl, rfl⟩ := e; exact Or.inl q3
            · exact Or.inr (Or.inr ⟨x, y, by omega, q2, q3⟩)
      · dsimp only
        by_cases e2 : e = m
        · rw [e2, puUpd_eq, m3]
          exact (puE_pos ⟨a, j, Or.inr ⟨rfl, by omega⟩, c, rfl⟩).symm
        · rw [puUpd_ne e2, g6 e he]
          have ne : Q e ≠ puMp (G a) (G j) := fun q => e2 (puSo_inj g3 he m1 (q.trans m3.symm))
          unfold puFl
          refine puE_iff ⟨fun ⟨x, y, q1, q2, q3⟩ => ⟨x, y, by omega, q2, q3⟩, fun ⟨x, y, q1, q2, q3⟩ => ?_⟩
          by_cases e : x = a ∧ y = j
          · obtain ⟨rfl, rfl⟩ := e; exact absurd q3 ne
          · exact ⟨x, y, by omega, q2, q3⟩
    · rw [xsBr_neg (by rw [show (1 : Int32) = puI ((1 : Nat) : Int) by rfl, puI_eqN (by omega) (by omega)]; exact c), xsBd_sm]
      simp only [fX11_lays_J123]
      rw [xsLt_eq, puI_s1]
      refine ⟨_, rfl, rfl, N, P, rfl, h2, h3, fun p => ?_, by omega, fun e he => ?_⟩
      · rw [h4]
        unfold puPk
        constructor
        · rintro (q | ⟨x, y, q1, q2, q3⟩)
          · exact Or.inl q
          · exact Or.inr ⟨x, y, by omega, q2, q3⟩
        · rintro (q | ⟨x, y, q1, q2, q3⟩)
          · exact Or.inl q
          · by_cases e : x = a ∧ y = j
            · obtain ⟨rfl, rfl⟩ := e; exact absurd q2 c
            · exact Or.inr ⟨x, y, by omega, q2, q3⟩
      · dsimp only
        rw [h6 e he]
        unfold puFl
        refine puE_iff ⟨fun ⟨x, y, q1, q2, q3⟩ => ⟨x, y, by omega, q2, q3⟩, fun ⟨x, y, q1, q2, q3⟩ => ?_⟩
        by_cases e : x = a ∧ y = j
        · obtain ⟨rfl, rfl⟩ := e; exact absurd q2 c
        · exact ⟨x, y, by omega, q2, q3⟩
  · rintro ⟨jj, one, two, sh, x0, y0, d0, ex, ey, ed, sz, cr⟩ ⟨rfl, h⟩
    simp only [fX11_lays_L86]
    rw [xsBr_pos (by rw [puI_leN (by omega) (by omega)]; omega)]
    exact ⟨_, rfl, h⟩
theorem p_lays76 {n : Nat} {G : puG} {w : Nat → Int32} (hv : puVal n G) (hw : puMW n G w) {one two sh : Nat → Int32} {x0 y0 d0 : Int64} {ex ey ed : Nat → Int64} {sz : Int32} {cr : Nat → Int32} (h : puMd G (fun s => s < n) (fun _ _ => False) (2 * n) ex ey ed sz cr) :
    puOk (xsWh (fun s25 => fX11_lays_L76 w s25.1 s25.2.1 s25.2.2.1 s25.2.2.2.1 s25.2.2.2.2.1 s25.2.2.2.2.2.1 s25.2.2.2.2.2.2.1 s25.2.2.2.2.2.2.2.1 s25.2.2.2.2.2.2.2.2.1 s25.2.2.2.2.2.2.2.2.2.1 s25.2.2.2.2.2.2.2.2.2.2.1 s25.2.2.2.2.2.2.2.2.2.2.2) ((0 : Int32), one, two, sh, x0, y0, d0, ex, ey, ed, sz, cr)) (fun r => puMd G (fun s => s < n) (fun x y => y < x ∧ x < n) 324 r.2.2.2.2.2.2.1 r.2.2.2.2.2.2.2.1 r.2.2.2.2.2.2.2.2.1 r.2.2.2.2.2.2.2.2.2.1 r.2.2.2.2.2.2.2.2.2.2) := by
  have hn := hv.1
  have trn := puTri_le hn
  refine puFor1 n (fun a z => z.1 = puI (a : Int) ∧ puMd G (fun s => s < n) (fun x y => y < x ∧ x < a) (2 * n + puTri a) z.2.2.2.2.2.2.2.1 z.2.2.2.2.2.2.2.2.1 z.2.2.2.2.2.2.2.2.2.1 z.2.2.2.2.2.2.2.2.2.2.1 z.2.2.2.2.2.2.2.2.2.2.2) _ ⟨rfl, puMd_c h (fun _ => Iff.rfl) (fun x y => ⟨fun q => q.elim, fun q => by omega⟩) (by omega)⟩ ?_ ?_
  · rintro a ⟨aa, one, two, sh, x0, y0, d0, ex, ey, ed, sz, cr⟩ ha ⟨rfl, h⟩
    simp only at h
    simp only [fX11_lays_L76]
    rw [p_many hw, xsBd_sm, xsBr_neg (by rw [puI_leN (by omega) (by omega)]; omega)]
    have tr := puTri_le (a := a + 1) (by omega)
    rw [puTri_s] at tr
    obtain ⟨r, er, hr⟩ := p_lays86 hv hw ha (b0 := 2 * n + puTri a) (by omega) (puMd_c h (fun _ => Iff.rfl) (fun x y => by omega) (Nat.le_refl _)) (one := one) (two := two) (sh := sh) (x0 := x0) (y0 := y0) (d0 := d0)
    rw [xsBd_some er]
    simp only [fX11_lays_J129]
    rw [xsLt_eq, puI_s1]
    exact ⟨_, rfl, rfl, puMd_c hr (fun _ => Iff.rfl) (fun x y => by omega) (by rw [puTri_s]; omega)⟩
  · rintro ⟨aa, one, two, sh, x0, y0, d0, ex, ey, ed, sz, cr⟩ ⟨rfl, h⟩
    simp only [fX11_lays_L76]
    rw [p_many hw, xsBd_sm, xsBr_pos (by rw [puI_leN (by omega) (by omega)]; omega)]
    exact ⟨_, rfl, puMd_c h (fun _ => Iff.rfl) (fun _ _ => Iff.rfl) (by omega)⟩
