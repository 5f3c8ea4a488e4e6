/-! PURE: bits counted, tints of a bundle -/
theorem p_bits (x : Int32) : fX11_bits x = some (puI ((fb_ct (bt x) 24 : Nat) : Int)) := by
  have key : puOk (xsWh (fun s3 => fX11_bits_L4 x s3.1 s3.2) ((0 : Int32), (0 : Int32))) (fun r => r = puI ((fb_ct (bt x) 24 : Nat) : Int)) := by
    refine puFor1 24 (fun k z => z.2 = puI (k : Int) ∧ z.1 = puI ((fb_ct (bt x) k : Nat) : Int)) _ ⟨rfl, rfl⟩ ?_ ?_
    · rintro k ⟨b, c⟩ hk ⟨rfl, rfl⟩
      simp only [fX11_bits_L4]
      rw [xsBr_neg (by rw [puI_lit, puI_le (by omega) (by omega) (by omega) (by omega)]; omega), pu_sh1 (by omega), xsLt_eq, xsLt_eq, puI_s1]
      refine ⟨_, rfl, rfl, ?_⟩
      simp only
      rw [fb_ct_succ]
      by_cases c : bt x k = true
      · rw [if_pos c, if_pos c]; exact puI_s1 _
      · rw [if_neg c, if_neg c, Nat.add_zero, show (0 : Int32) = puI 0 by rfl, puI_add, Int.add_zero]
    · rintro ⟨b, c⟩ ⟨rfl, rfl⟩
      simp only [fX11_bits_L4]
      rw [xsBr_pos (by rw [puI_lit, puI_le (by omega) (by omega) (by omega) (by omega)]; omega)]
      exact ⟨_, rfl, rfl⟩
  obtain ⟨r, er, rfl⟩ := key
  unfold fX11_bits
  rw [xsBd_some er]; rfl
theorem fb_ct32 {x : Int32} {P : Nat → Prop} (h : puSt x P) (h2 : ∀ i, P i → i < 24) : fb_ct (bt x) 32 = fb_ct (bt x) 24 := by
  have s : fb_ct (bt x) 32 = fb_ct (bt x) 24 + fb_ct (fun k => bt x (24 + k)) 8 := fb_ct_split (bt x) 24 8
  have z : fb_ct (fun k => bt x (24 + k)) 8 = 0 := fb_ct_zero.mpr (fun k hk => ts_nf2 (fun q => by have := h2 _ ((h (24 + k) (by omega)).mp q); omega))
  omega
theorem p_kbits {x : Int32} {P : Nat → Prop} (h : puSt x P) (h2 : ∀ i, P i → i < 24) : fJ6_bitCount_0f7a4 x = some (puI ((fb_ct (bt x) 24 : Nat) : Int)) := by
  rw [pu_bitCount, fb_ct32 h h2]
theorem puSt_n {x : Int32} {P : Nat → Prop} (h : puSt x P) {m : Nat} (hm : m ≤ 32) : fb_ct (bt x) m = puN P m := by
  unfold puN
  refine fb_ct_cong (fun k hk => ?_)
  have e := h k (by omega)
  by_cases c : P k
  · rw [e.mpr c, puDe_t.mpr c]
  · rw [ts_nf2 (fun q => c (e.mp q)), puDe_f.mpr c]
/-- the tints of a bundle -/
def puTs (m : Nat) (G : puG) (x : Int32) (t : Nat) : Prop := ∃ s, s < m ∧ bt x s = true ∧ (G s).2.2.2.2 = (t : Int)
theorem puTs_0 {G : puG} {x : Int32} : puSt 0 (puTs 0 G x) := puSt_c puSt_0 (fun i _ => ⟨fun q => q.elim, fun ⟨s, hs, _⟩ => absurd hs (by omega)⟩)
theorem puTs_no {m : Nat} {G : puG} {x y : Int32} (h : puSt y (puTs m G x)) (c : ¬ bt x m = true) : puSt y (puTs (m + 1) G x) := by
  refine puSt_c h (fun i _ => ⟨fun ⟨s, h1, h2⟩ => ⟨s, by omega, h2⟩, fun ⟨s, h1, h2, h3⟩ => ⟨s, ?_, h2, h3⟩⟩)
  by_cases e : s = m
  · subst e; exact absurd h2 c
  · omega
theorem puTs_yes {m : Nat} {G : puG} {x y : Int32} (h : puSt y (puTs m G x)) (c : bt x m = true) {t : Int} (e : (G m).2.2.2.2 = t) (ht : 0 ≤ t ∧ t ≤ 3) : puSt (y ||| ((1 : Int32) <<< (puI t &&& 31))) (puTs (m + 1) G x) := by
  have et : t = ((t.toNat : Nat) : Int) := by omega
  rw [et]
  refine puSt_c (puSt_or h (puSt_1 (s := t.toNat) (by omega))) (fun i _ => ⟨?_, ?_⟩)
  · rintro (⟨s, h1, h2⟩ | rfl)
    · exact ⟨s, by omega, h2⟩
    · exact ⟨m, by omega, c, by rw [e]; omega⟩
  · rintro ⟨s, h1, h2, h3⟩
    by_cases es : s = m
    · subst es; rw [e] at h3; exact Or.inr (by omega)
    · exact Or.inl ⟨s, by omega, h2, h3⟩
theorem p_ktints {n : Nat} {G : puG} {ti : Nat → Int32} (hv : puVal n G) (ht : ∀ s, s < n → ti s = puI (G s).2.2.2.2) (x : Int32) : puOk (fX7_tintsOf ti (puI (n : Int)) x) (fun r => puSt r (puTs n G x)) := by
  have hn := hv.1
  have key : puOk (xsWh (fun s3 => fX7_tintsOf_L4 ti (puI (n : Int)) x s3.1 s3.2) ((0 : Int32), (0 : Int32))) (fun r => puSt r (puTs n G x)) := by
    refine puFor1 n (fun k z => z.2 = puI (k : Int) ∧ puSt z.1 (puTs k G x)) _ ⟨rfl, puTs_0⟩ ?_ ?_
    · rintro k ⟨b, c⟩ hk ⟨rfl, h⟩
      simp only at h
      have tb := (hv.2 k hk).2.1
      simp only [fX7_tintsOf_L4]
      rw [xsBr_neg (by rw [puI_leN (by omega) (by omega)]; omega), pu_has x (by omega), xsBd_sm]
      by_cases c : bt x k = true
      · rw [xsBr_neg (by rw [puB_pos c]; decide), xsCk_in (by omega) (by omega) (by omega), xsLt_eq, xsBd_sm, puI_clN (by omega), ht k hk]
        simp only [fX7_tintsOf_J31]
        rw [xsLt_eq, puI_s1]
        exact ⟨_, rfl, rfl, puTs_yes h c rfl tb⟩
      · rw [xsBr_pos (puB_neg c), xsBd_sm]
        simp only [fX7_tintsOf_J31]
        rw [xsLt_eq, puI_s1]
        exact ⟨_, rfl, rfl, puTs_no h c⟩
    · rintro ⟨b, c⟩ ⟨rfl, h⟩
      simp only [fX7_tintsOf_L4]
      rw [xsBr_pos (by rw [puI_leN (by omega) (by omega)]; omega)]
      exact ⟨_, rfl, h⟩
  obtain ⟨r, er, hr⟩ := key
  unfold fX7_tintsOf
  rw [xsBd_some er]
  exact puOk_some hr
theorem p_mtints {n : Nat} {G : puG} {w : Nat → Int32} (hv : puVal n G) (hw : puMW n G w) (x : Int32) : puOk (fX11_tintsOf w x) (fun r => puSt r (puTs n G x)) := by
  have hn := hv.1
  have key : puOk (xsWh (fun s3 => fX11_tintsOf_L4 w x s3.1 s3.2) ((0 : Int32), (0 : Int32))) (fun r => puSt r (puTs n G x)) := by
    refine puFor1 n (fun k z => z.2 = puI (k : Int) ∧ puSt z.1 (puTs k G x)) _ ⟨rfl, puTs_0⟩ ?_ ?_
    · rintro k ⟨b, c⟩ hk ⟨rfl, h⟩
      simp only at h
      have tb := (hv.2 k hk).2.1
      simp only [fX11_tintsOf_L4]
      rw [p_many hw, xsBd_sm, xsBr_neg (by rw [puI_leN (by omega) (by omega)]; omega), pu_holds x (by omega), xsBd_sm]
      by_cases c : bt x k = true
      · rw [xsBr_neg (by rw [puB_pos c]; decide), p_of4 (by omega), xsBd_sm, xsBd_sm, (hw.2 k hk).2.2.2.2]
        simp only [fX11_tintsOf_J33]
        rw [xsLt_eq, xsLt_eq, puI_s1]
        exact ⟨_, rfl, rfl, puTs_yes h c rfl tb⟩
      · rw [xsBr_pos (puB_neg c), xsBd_sm]
        simp only [fX11_tintsOf_J33]
        rw [xsLt_eq, xsLt_eq, puI_s1]
        exact ⟨_, rfl, rfl, puSt_c (puSt_or (puTs_no h c) puSt_0) (fun i _ => ⟨fun q => q.elim id (fun q => q.elim), Or.inl⟩)⟩
    · rintro ⟨b, c⟩ ⟨rfl, h⟩
      simp only [fX11_tintsOf_L4]
      rw [p_many hw, xsBd_sm, xsBr_pos (by rw [puI_leN (by omega) (by omega)]; omega)]
      exact ⟨_, rfl, h⟩
  obtain ⟨r, er, hr⟩ := key
  unfold fX11_tintsOf
  rw [xsBd_some er]
  exact puOk_some hr
/-- the reference's check of a CROSSING's number -/
theorem p_noCrossing {n : Nat} {G : puG} {w : Nat → Int32} (hv : puVal n G) (hw : puMW n G w) {th ld : Int32} {one two sh : Nat → Int32} {x0 y0 d0 : Int64} {ex ey ed : Nat → Int64} {sz : Int32} {cr bu eo de fr to : Nat → Int32} {nc ne : Int32} (h : ld = 0 ∨ (ld = 1 ∧ puMLd n G ex ey ed sz cr bu eo de fr to nc ne)) {i : Int} (i1 : -2147483648 ≤ i) (i2 : i ≤ 2147483647) :
    ∃ v, puML19 n G v ∧ fX11_noCrossing th w ld one two sh x0 y0 d0 ex ey ed sz cr bu eo de fr to nc ne (puI i) = some (puB (¬ (0 ≤ i ∧ i < (puN (puX n G) (puCan n G).1 : Int))), puE (¬ (0 ≤ i ∧ i < (puN (puX n G) (puCan n G).1 : Int))) 1 0, v) := by
  obtain ⟨v, ev, hv'⟩ := p_lays hv hw h (one := one) (two := two) (sh := sh) (x0 := x0) (y0 := y0) (d0 := d0)
  refine ⟨v, hv', ?_⟩
  obtain ⟨v1, ⟨-, vN⟩, -, -, ⟨-, -, vc⟩, -⟩ := hv'
  have cn := puN_le (puX n G) (puCan n G).1
  unfold fX11_noCrossing
  rw [xsBd_some ev, vc, puI_l i1 i2, show (1 : Int32) = puI 1 by rfl, puI_sub, puI_l (by omega) (by omega), show (0 : Int64) = puJ 0 by rfl, p_in (by omega) (by omega) (by omega), show puI 1 = (1 : Int32) by rfl]
  simp only [xsBd_sm, puB_0, xsBr_10, fX11_noCrossing_J31]
  rw [p_throwsIf, xsBd_sm, xsCk_pos (puB_xsB _)]
  have e : (¬ (0 ≤ i ∧ i ≤ (puN (puX n G) (puCan n G).1 : Int) - 1)) ↔ ¬ (0 ≤ i ∧ i < (puN (puX n G) (puCan n G).1 : Int)) := by omega
  rw [puB_iff e, puE_iff e]
