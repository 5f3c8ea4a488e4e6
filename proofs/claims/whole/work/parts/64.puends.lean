/-! PURE: the ends in an EVENT -/
theorem p_endsIn {n : Nat} {f : Nat → Int32} {g : Nat → Nat} (hn : n ≤ 24) (hf : ∀ s, s < n → f s = puI (g s : Int) ∧ g s < 324) {e : Nat} (he : e < 324) : puOk (fX1_endsIn f (puI (n : Int)) (puI (e : Int))) (fun r => puSt r (fun s => s < n ∧ g s = e)) := by
  have key : puOk (xsWh (fun s3 => fX1_endsIn_L5 f (puI (n : Int)) (puI (e : Int)) s3.1 s3.2) ((0 : Int32), (0 : Int32))) (fun r => puSt r (fun s => s < n ∧ g s = e)) := by
    refine puFor1 n (fun k z => z.2 = puI (k : Int) ∧ puSt z.1 (fun s => s < k ∧ g s = e)) _ ⟨rfl, puSt_c puSt_0 (fun i _ => ⟨fun q => q.elim, fun q => absurd q.1 (by omega)⟩)⟩ ?_ ?_
    · rintro k ⟨b, c⟩ hk ⟨rfl, h⟩
      simp only at h
      obtain ⟨f1, f2⟩ := hf k hk
      simp only [fX1_endsIn_L5]
      rw [xsBr_neg (by rw [puI_leN (by omega) (by omega)]; omega), xsCk_in (by omega) (by omega) (by omega), xsLt_eq, puI_clN (by omega), f1]
      by_cases c : g k = e
      · rw [xsBr_pos (by rw [c]), xsBd_sm]
        simp only [fX1_endsIn_J29]
        rw [xsLt_eq, puI_s1]
        refine ⟨_, rfl, rfl, puSt_c (puSt_or h (puSt_1 (s := k) (by omega))) (fun i _ => ⟨?_, ?_⟩)⟩
        · rintro (q | rfl)
          · exact ⟨by omega, q.2⟩
          · exact ⟨by omega, c⟩
        · rintro ⟨q1, q2⟩
          by_cases e2 : i = k
          · exact Or.inr e2
          · exact Or.inl ⟨by omega, q2⟩
      · rw [xsBr_neg (by rw [puI_eq (by omega) (by omega) (by omega) (by omega)]; omega), xsBd_sm]
        simp only [fX1_endsIn_J29]
        rw [xsLt_eq, puI_s1]
        refine ⟨_, rfl, rfl, puSt_c h (fun i _ => ⟨fun q => ⟨by omega, q.2⟩, fun q => ⟨?_, q.2⟩⟩)⟩
        by_cases e2 : i = k
        · subst e2; exact absurd q.2 c
        · have := q.1; omega
    · rintro ⟨b, c⟩ ⟨rfl, h⟩
      simp only [fX1_endsIn_L5]
      rw [xsBr_pos (by rw [puI_leN (by omega) (by omega)]; omega)]
      exact ⟨_, rfl, h⟩
  obtain ⟨r, er, hr⟩ := key
  unfold fX1_endsIn
  rw [xsBd_some er]
  exact puOk_some hr
theorem p_endsIn_v1 {n : Nat} {f : Nat → Int32} {g : Nat → Nat} (hn : n ≤ 24) (hf : ∀ s, s < n → f s = puI (g s : Int) ∧ g s < 324) {e : Nat} (he : e < 324) : puOk (fX1_endsIn_v1 f (puI (n : Int)) (puI (e : Int))) (fun r => puSt r (fun s => s < n ∧ g s = e)) := by
  have key : puOk (xsWh (fun s3 => fX1_endsIn_v1_L5 f (puI (n : Int)) (puI (e : Int)) s3.1 s3.2) ((0 : Int32), (0 : Int32))) (fun r => puSt r (fun s => s < n ∧ g s = e)) := by
    refine puFor1 n (fun k z => z.2 = puI (k : Int) ∧ puSt z.1 (fun s => s < k ∧ g s = e)) _ ⟨rfl, puSt_c puSt_0 (fun i _ => ⟨fun q => q.elim, fun q => absurd q.1 (by omega)⟩)⟩ ?_ ?_
    · rintro k ⟨b, c⟩ hk ⟨rfl, h⟩
      simp only at h
      obtain ⟨f1, f2⟩ := hf k hk
      simp only [fX1_endsIn_v1_L5]
      rw [xsBr_neg (by rw [puI_leN (by omega) (by omega)]; omega), xsCk_in (by omega) (by omega) (by omega), xsLt_eq, puI_clN (by omega), f1]
      by_cases c : g k = e
      · rw [xsBr_pos (by rw [c]), xsBd_sm]
        simp only [fX1_endsIn_v1_J29]
        rw [xsLt_eq, puI_s1]
        refine ⟨_, rfl, rfl, puSt_c (puSt_or h (puSt_1 (s := k) (by omega))) (fun i _ => ⟨?_, ?_⟩)⟩
        · rintro (q | rfl)
          · exact ⟨by omega, q.2⟩
          · exact ⟨by omega, c⟩
        · rintro ⟨q1, q2⟩
          by_cases e2 : i = k
          · exact Or.inr e2
          · exact Or.inl ⟨by omega, q2⟩
      · rw [xsBr_neg (by rw [puI_eq (by omega) (by omega) (by omega) (by omega)]; omega), xsBd_sm]
        simp only [fX1_endsIn_v1_J29]
        rw [xsLt_eq, puI_s1]
        refine ⟨_, rfl, rfl, puSt_c h (fun i _ => ⟨fun q => ⟨by omega, q.2⟩, fun q => ⟨?_, q.2⟩⟩)⟩
        by_cases e2 : i = k
        · subst e2; exact absurd q.2 c
        · have := q.1; omega
    · rintro ⟨b, c⟩ ⟨rfl, h⟩
      simp only [fX1_endsIn_v1_L5]
      rw [xsBr_pos (by rw [puI_leN (by omega) (by omega)]; omega)]
      exact ⟨_, rfl, h⟩
  obtain ⟨r, er, hr⟩ := key
  unfold fX1_endsIn_v1
  rw [xsBd_some er]
  exact puOk_some hr
theorem p_leftAt {n : Nat} {G : puG} {w : Nat → Int32} {ex ey ed : Nat → Int64} {N : Nat} {P : Nat → puP} (hv : puVal n G) (hw : puMW n G w) (he : puEvs N P ex ey ed) {s k : Nat} (hs : s < n) (hk : k < N) (hN : N ≤ 324) : fX11_isLeftAt w ex ey ed (puI (s : Int)) (puI (k : Int)) = some (puB (P k = puA (G s))) := by
  have hn := hv.1
  have v := hv.2 s hs
  obtain ⟨X, Y, D, eX, eY, eD, hD, ⟨r1, r2⟩, bX, bY⟩ := he k hk
  obtain ⟨e1, -⟩ := puEnd_num (q := G s) hD.1 r1 r2
  obtain ⟨⟨k1, k2⟩, -, -⟩ := puEnd_b v hD
  obtain ⟨h1, h2, h3, h4, -⟩ := hw.2 s hs
  obtain ⟨⟨b1, b2, b3, b4⟩, -, -⟩ := v
  unfold fX11_isLeftAt
  rw [p_of0 (by omega), p_of1 (by omega)]
  simp (disch := omega) only [xsCk_in, xsBd_sm, puI_clN, eX, eY, eD, h1, h2, puI_l, puJ_mul, puJ_eq, xsBr_10, xsBr_B0]
  exact congrArg some (puB_iff e1)
theorem p_rightAt {n : Nat} {G : puG} {w : Nat → Int32} {ex ey ed : Nat → Int64} {N : Nat} {P : Nat → puP} (hv : puVal n G) (hw : puMW n G w) (he : puEvs N P ex ey ed) {s k : Nat} (hs : s < n) (hk : k < N) (hN : N ≤ 324) : fX11_isRightAt w ex ey ed (puI (s : Int)) (puI (k : Int)) = some (puB (P k = puZ (G s))) := by
  have hn := hv.1
  have v := hv.2 s hs
  obtain ⟨X, Y, D, eX, eY, eD, hD, ⟨r1, r2⟩, bX, bY⟩ := he k hk
  obtain ⟨-, e1⟩ := puEnd_num (q := G s) hD.1 r1 r2
  obtain ⟨-, k1, k2⟩ := puEnd_b v hD
  obtain ⟨h1, h2, h3, h4, -⟩ := hw.2 s hs
  obtain ⟨⟨b1, b2, b3, b4⟩, -, -⟩ := v
  unfold fX11_isRightAt
  rw [p_of2 (by omega), p_of3 (by omega)]
  simp (disch := omega) only [xsCk_in, xsBd_sm, puI_clN, eX, eY, eD, h3, h4, puI_l, puJ_mul, puJ_eq, xsBr_10, xsBr_B0]
  exact congrArg some (puB_iff e1)
theorem p_endsAt1 {n : Nat} {G : puG} {w : Nat → Int32} {ex ey ed : Nat → Int64} {N : Nat} {P : Nat → puP} (hv : puVal n G) (hw : puMW n G w) (he : puEvs N P ex ey ed) {k : Nat} (hk : k < N) (hN : N ≤ 324) : puOk (fX11_endsAt w ex ey ed (puI (k : Int)) (1 : Int32)) (fun r => puSt r (fun s => s < n ∧ P k = puA (G s))) := by
  have hn := hv.1
  have key : puOk (xsWh (fun s3 => fX11_endsAt_L5 w ex ey ed (puI (k : Int)) (1 : Int32) s3.1 s3.2) ((0 : Int32), (0 : Int32))) (fun r => puSt r (fun s => s < n ∧ P k = puA (G s))) := by
    refine puFor1 n (fun m z => z.2 = puI (m : Int) ∧ puSt z.1 (fun s => s < m ∧ P k = puA (G s))) _ ⟨rfl, puSt_c puSt_0 (fun i _ => ⟨fun q => q.elim, fun q => absurd q.1 (by omega)⟩)⟩ ?_ ?_
    · rintro m ⟨b, c⟩ hm ⟨rfl, h⟩
      simp only at h
      simp only [fX11_endsAt_L5]
      rw [p_many hw, xsBd_sm, xsBr_neg (by rw [puI_leN (by omega) (by omega)]; omega), xsBr_neg (by decide), p_leftAt hv hw he hm hk hN, xsBd_sm]
      by_cases c : P k = puA (G m)
      · rw [xsBr_neg (by rw [puB_pos c]; decide), xsBd_sm]
        simp only [fX11_endsAt_J50]
        rw [xsLt_eq, xsLt_eq, puI_s1]
        refine ⟨_, rfl, rfl, puSt_c (puSt_or h (puSt_1 (s := m) (by omega))) (fun i _ => ⟨?_, ?_⟩)⟩
        · rintro (q | rfl)
          · exact ⟨by omega, q.2⟩
          · exact ⟨by omega, c⟩
        · rintro ⟨q1, q2⟩
          by_cases e2 : i = m
          · exact Or.inr e2
          · exact Or.inl ⟨by omega, q2⟩
      · rw [xsBr_pos (puB_neg c), xsBd_sm]
        simp only [fX11_endsAt_J50]
        rw [xsLt_eq, xsLt_eq, puI_s1]
        refine ⟨_, rfl, rfl, puSt_c (puSt_or h puSt_0) (fun i _ => ⟨fun q => q.elim (fun q => ⟨by omega, q.2⟩) (fun q => q.elim), fun q => Or.inl ⟨?_, q.2⟩⟩)⟩
        by_cases e2 : i = m
        · subst e2; exact absurd q.2 c
        · have := q.1; omega
    · rintro ⟨b, c⟩ ⟨rfl, h⟩
      simp only [fX11_endsAt_L5]
      rw [p_many hw, xsBd_sm, xsBr_pos (by rw [puI_leN (by omega) (by omega)]; omega)]
      exact ⟨_, rfl, h⟩
  obtain ⟨r, er, hr⟩ := key
  unfold fX11_endsAt
  rw [xsBd_some er]
  exact puOk_some hr
theorem p_endsAt0 {n : Nat} {G : puG} {w : Nat → Int32} {ex ey ed : Nat → Int64} {N : Nat} {P : Nat → puP} (hv : puVal n G) (hw : puMW n G w) (he : puEvs N P ex ey ed) {k : Nat} (hk : k < N) (hN : N ≤ 324) : puOk (fX11_endsAt w ex ey ed (puI (k : Int)) (0 : Int32)) (fun r => puSt r (fun s => s < n ∧ P k = puZ (G s))) := by
  have hn := hv.1
  have key : puOk (xsWh (fun s3 => fX11_endsAt_L5 w ex ey ed (puI (k : Int)) (0 : Int32) s3.1 s3.2) ((0 : Int32), (0 : Int32))) (fun r => puSt r (fun s => s < n ∧ P k = puZ (G s))) := by
    refine puFor1 n (fun m z => z.2 = puI (m : Int) ∧ puSt z.1 (fun s => s < m ∧ P k = puZ (G s))) _ ⟨rfl, puSt_c puSt_0 (fun i _ => ⟨fun q => q.elim, fun q => absurd q.1 (by omega)⟩)⟩ ?_ ?_
    · rintro m ⟨b, c⟩ hm ⟨rfl, h⟩
      simp only at h
      simp only [fX11_endsAt_L5]
      rw [p_many hw, xsBd_sm, xsBr_neg (by rw [puI_leN (by omega) (by omega)]; omega), xsBr_pos (by decide), p_rightAt hv hw he hm hk hN, xsBd_sm]
      by_cases c : P k = puZ (G m)
      · rw [xsBr_neg (by rw [puB_pos c]; decide), xsBd_sm]
        simp only [fX11_endsAt_J50]
        rw [xsLt_eq, xsLt_eq, puI_s1]
        refine ⟨_, rfl, rfl, puSt_c (puSt_or h (puSt_1 (s := m) (by omega))) (fun i _ => ⟨?_, ?_⟩)⟩
        · rintro (q | rfl)
          · exact ⟨by omega, q.2⟩
          · exact ⟨by omega, c⟩
        · rintro ⟨q1, q2⟩
          by_cases e2 : i = m
          · exact Or.inr e2
          · exact Or.inl ⟨by omega, q2⟩
      · rw [xsBr_pos (puB_neg c), xsBd_sm]
        simp only [fX11_endsAt_J50]
        rw [xsLt_eq, xsLt_eq, puI_s1]
        refine ⟨_, rfl, rfl, puSt_c (puSt_or h puSt_0) (fun i _ => ⟨fun q => q.elim (fun q => ⟨by omega, q.2⟩) (fun q => q.elim), fun q => Or.inl ⟨?_, q.2⟩⟩)⟩
        by_cases e2 : i = m
        · subst e2; exact absurd q.2 c
        · have := q.1; omega
    · rintro ⟨b, c⟩ ⟨rfl, h⟩
      simp only [fX11_endsAt_L5]
      rw [p_many hw, xsBd_sm, xsBr_pos (by rw [puI_leN (by omega) (by omega)]; omega)]
      exact ⟨_, rfl, h⟩
  obtain ⟨r, er, hr⟩ := key
  unfold fX11_endsAt
  rw [xsBd_some er]
  exact puOk_some hr
