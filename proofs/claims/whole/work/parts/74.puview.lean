/-! PURE: VIEW -/
theorem su_tp_u {n : Nat} {G : puG} {p : puP} {t u : Int32} (h1 : su_tp n G p t) (h2 : su_tp n G p u) : t = u := by
  rcases h1 with ⟨rfl, h1⟩ | ⟨s, hs, a1, rfl, b1⟩
  · rcases h2 with ⟨rfl, h2⟩ | ⟨s2, hs2, a2, rfl, b2⟩
    · rfl
    · exact absurd a2 (h1 s2 hs2)
  · rcases h2 with ⟨rfl, h2⟩ | ⟨s2, hs2, a2, rfl, b2⟩
    · exact absurd a1 (h2 s hs)
    · by_cases e : s = s2
      · rw [e]
      · exact absurd (su_tr (b1 s2 hs2 a2 (Ne.symm e)) (b2 s hs a1 e)) su_irr
theorem su_tp_st {n : Nat} {G : puG} {p : puP} {c : Nat} {f : Nat → Int32} {g : Nat → Nat} (h : su_st G p n c f g) : su_tp n G p (if c = 0 then -1 else f (c - 1)) := by
  obtain ⟨s1, s2, s3⟩ := h
  by_cases e : c = 0
  · subst e
    rw [if_pos rfl]
    exact Or.inl ⟨rfl, fun s hs ha => by obtain ⟨j, hj, -⟩ := s3 s hs ha; omega⟩
  · rw [if_neg e]
    obtain ⟨q1, q2, q3⟩ := s1 (c - 1) (by omega)
    refine Or.inr ⟨g (c - 1), q2, q3, q1, fun i hi ha hne => ?_⟩
    obtain ⟨j, hj, rfl⟩ := s3 i hi ha
    refine s2 j (c - 1) ?_ (by omega)
    by_cases z : j = c - 1
    · subst z; exact absurd rfl hne
    · omega
noncomputable def su_top (n : Nat) (G : puG) (p : puP) : Int32 := @dite _ (∃ t, su_tp n G p t) (Classical.propDecidable _) (fun h => Classical.choose h) (fun _ => 0)
theorem su_top_of {n : Nat} {G : puG} {p : puP} {t : Int32} (h : su_tp n G p t) : t = su_top n G p := by
  have ex : ∃ t, su_tp n G p t := ⟨t, h⟩
  have e : su_top n G p = Classical.choose ex := dif_pos ex
  rw [e]
  exact su_tp_u h (Classical.choose_spec ex)
/-- those seen, up to the m-th EVENT -/
noncomputable def vw (n : Nat) (G : puG) : Nat → List Int32
  | 0 => []
  | m + 1 => puE (((puCan n G).2 m).1 = ((puCan n G).2 (m + 1)).1) (vw n G m) (puE ((vw n G m).getLast? = some (su_top n G ((puCan n G).2 m))) (vw n G m) (vw n G m ++ [su_top n G ((puCan n G).2 m)]))
theorem vw_len (n : Nat) (G : puG) : ∀ m, (vw n G m).length ≤ m
  | 0 => Nat.le_refl _
  | m + 1 => by
    have h := vw_len n G m
    unfold vw
    by_cases c : ((puCan n G).2 m).1 = ((puCan n G).2 (m + 1)).1
    · rw [puE_pos c]; omega
    · rw [puE_neg c]
      by_cases d : (vw n G m).getLast? = some (su_top n G ((puCan n G).2 m))
      · rw [puE_pos d]; omega
      · rw [puE_neg d, List.length_append, List.length_singleton]; omega
theorem vw_s {n : Nat} {G : puG} {m k : Nat} {t : Int32} (h : (vw n G m)[k]? = some t) : (vw n G (m + 1))[k]? = some t := by
  unfold vw
  by_cases c : ((puCan n G).2 m).1 = ((puCan n G).2 (m + 1)).1
  · rw [puE_pos c]; exact h
  · rw [puE_neg c]
    by_cases d : (vw n G m).getLast? = some (su_top n G ((puCan n G).2 m))
    · rw [puE_pos d]; exact h
    · have hl : k < (vw n G m).length := (List.getElem?_eq_some_iff.mp h).1
      rw [puE_neg d, List.getElem?_append_left hl]; exact h
theorem vw_keep {n : Nat} {G : puG} {m k : Nat} {t : Int32} (h : (vw n G m)[k]? = some t) : ∀ j, (vw n G (m + j))[k]? = some t
  | 0 => h
  | j + 1 => vw_s (vw_keep h j)
/-- like X of two EVENTS -/
theorem vw_x {N : Nat} {P : Nat → puP} {ex ey ed : Nat → Int64} (he : puEvs N P ex ey ed) {i j : Nat} (hi : i < N) (hj : j < N) : (ex i * ed j = ex j * ed i) ↔ (P i).1 = (P j).1 := by
  obtain ⟨X, Y, D, e1, e2, e3, hD, ⟨r1, r2⟩, bX, bY⟩ := he i hi
  obtain ⟨X', Y', D', e1', e2', e3', hD', ⟨r1', r2'⟩, bX', bY'⟩ := he j hj
  have b1 := puRep_bd2 hD hD' bX
  have b2 := puRep_bd2 hD' hD bX'
  rw [e1, e3, e1', e3', puJ_mul, puJ_mul, puJ_eq (by omega) (by omega) (by omega) (by omega)]
  exact (pg_cmp hD.1 hD'.1 r1 r1').2
theorem pu_goz {β : Type} {n k : Nat} {sz : Int32} {a b : Option β} (hs : sz = puI (n : Int)) (h : k < n) (hn : n ≤ 1000000) : xsBr (sz ≤ puI (k : Int)) a b = b := by rw [hs]; exact pu_go h hn
theorem p_isLast {N : Nat} {P : Nat → puP} {ex ey ed : Nat → Int64} (he : puEvs N P ex ey ed) (hN : N ≤ 324) {k : Nat} (hk : k + 1 < N) {sz : Int32} (hs : sz = puI (N : Int)) : fX1_isLastOfItsX ex ed sz (puI (k : Int)) = some (puB (¬ (P k).1 = (P (k + 1)).1)) := by
  subst hs
  unfold fX1_isLastOfItsX
  rw [puI_s1, pu_go hk (by omega), xsCk_in (by omega) (by omega) (by omega), xsCk_in (by omega) (by omega) (by omega), xsCk_in (by omega) (by omega) (by omega), xsCk_in (by omega) (by omega) (by omega), puI_clN (by omega), puI_clN (by omega), xsBr_01]
  exact congrArg some (puB_iff (not_congr (vw_x he (by omega) hk)))
theorem p_view16 {n : Nat} {G : puG} {lx ly rx ry : Nat → Int32} (hv : puVal n G) (hk : puKW n G lx ly rx ry) {o1 : _} (hE : puEvt n G (puCan n G).1 (puCan n G).2) (hN : (puCan n G).1 ≤ 324) (he : puEvs (puCan n G).1 (puCan n G).2 o1.2.2.2.2.2.2.2.2.2.2.2.2.2.2.2.1 o1.2.2.2.2.2.2.2.2.2.2.2.2.2.2.2.2.1 o1.2.2.2.2.2.2.2.2.2.2.2.2.2.2.2.2.2.1) (hsz : o1.2.2.2.2.2.2.2.2.2.2.2.2.2.2.2.2.2.2.2.2.2.2.2.1 = puI ((puCan n G).1 : Int)) (hle : puEnd n G (puCan n G).1 (puCan n G).2 o1.2.2.2.2.2.2.2.2.2.2.2.2.2.2.2.2.2.2.2.2.2.1 o1.2.2.2.2.2.2.2.2.2.2.2.2.2.2.2.2.2.2.2.2.2.2.1) (hsn : o1.2.2.2.2.2.2.2.2.2.2.2.2.2.2.2.2.2.2.2.2.2.2.2.2.2.1 = puI (n : Int)) {k : Int} (k1 : -2147483648 ≤ k) (k2 : k ≤ 2147483647) :
    puOk (xsWh (fun s6 => fX10_view_L16 lx ly rx ry (puI (n : Int)) (puI k) o1 s6.1 s6.2.1 s6.2.2) ((0 : Int32), (-1 : Int32), (0 : Int32))) (fun r => (∃ (j : Nat) (t : Int32), k = (j : Int) ∧ (vw n G ((puCan n G).1 - 1))[j]? = some t ∧ r = .inl (t, o1.1, o1.2.1, o1.2.2.1, o1.2.2.2.1, o1.2.2.2.2.1, o1.2.2.2.2.2.1, o1.2.2.2.2.2.2.1, o1.2.2.2.2.2.2.2.1, o1.2.2.2.2.2.2.2.2.1, o1.2.2.2.2.2.2.2.2.2.1, o1.2.2.2.2.2.2.2.2.2.2.1, o1.2.2.2.2.2.2.2.2.2.2.2.1, o1.2.2.2.2.2.2.2.2.2.2.2.2.1, o1.2.2.2.2.2.2.2.2.2.2.2.2.2.1, o1.2.2.2.2.2.2.2.2.2.2.2.2.2.2.1, o1.2.2.2.2.2.2.2.2.2.2.2.2.2.2.2.1, o1.2.2.2.2.2.2.2.2.2.2.2.2.2.2.2.2.1, o1.2.2.2.2.2.2.2.2.2.2.2.2.2.2.2.2.2.1, o1.2.2.2.2.2.2.2.2.2.2.2.2.2.2.2.2.2.2.1, o1.2.2.2.2.2.2.2.2.2.2.2.2.2.2.2.2.2.2.2.1, o1.2.2.2.2.2.2.2.2.2.2.2.2.2.2.2.2.2.2.2.2.1, o1.2.2.2.2.2.2.2.2.2.2.2.2.2.2.2.2.2.2.2.2.2.1, o1.2.2.2.2.2.2.2.2.2.2.2.2.2.2.2.2.2.2.2.2.2.2.1, o1.2.2.2.2.2.2.2.2.2.2.2.2.2.2.2.2.2.2.2.2.2.2.2.1, o1.2.2.2.2.2.2.2.2.2.2.2.2.2.2.2.2.2.2.2.2.2.2.2.2.1, o1.2.2.2.2.2.2.2.2.2.2.2.2.2.2.2.2.2.2.2.2.2.2.2.2.2.1, o1.2.2.2.2.2.2.2.2.2.2.2.2.2.2.2.2.2.2.2.2.2.2.2.2.2.2.1, o1.2.2.2.2.2.2.2.2.2.2.2.2.2.2.2.2.2.2.2.2.2.2.2.2.2.2.2)) ∨ (¬ (0 ≤ k ∧ k < ((vw n G ((puCan n G).1 - 1)).length : Int)) ∧ r = .inr (puI ((vw n G ((puCan n G).1 - 1)).length : Int)))) := by
  have hn := hv.1
  refine puFor ((puCan n G).1 - 1) (fun m z => z.2.2 = puI (m : Int) ∧ z.1 = puI ((vw n G m).length : Int) ∧ (0 < (vw n G m).length → (vw n G m).getLast? = some z.2.1) ∧ ¬ (0 ≤ k ∧ k < ((vw n G m).length : Int))) _ ?_ ?_ 0 _ (Nat.zero_le _) ⟨rfl, rfl, fun h => absurd h (by simp [vw]), fun h => by simp [vw] at h; omega⟩
  · rintro m ⟨y3, y4, y5⟩ hm ⟨q1, q2, q3, q4⟩
    simp only at q1 q2 q3 q4
    subst q1; subst q2
    have ll := vw_len n G m
    simp only [fX10_view_L16]
    rw [puI_s1, pu_goz hsz (show m + 1 < (puCan n G).1 by omega) (by omega), p_isLast he hN (by omega) hsz, xsBd_sm]
    by_cases c : ((puCan n G).2 m).1 = ((puCan n G).2 (m + 1)).1
    · have ev : vw n G (m + 1) = vw n G m := by show puE _ _ _ = _; rw [puE_pos c]
      rw [pu_bf (fun q => q c), xsLt_eq]
      refine Or.inl ⟨_, rfl, rfl, ?_, ?_, ?_⟩
      · dsimp only; rw [ev]
      · dsimp only; rw [ev]; exact q3
      · rw [ev]; exact q4
    obtain ⟨t, et, ht⟩ := p_lastS hv hk he hE hN hle (show m < (puCan n G).1 by omega) hsn
    have ht2 := su_top_of ht
    rw [pu_bt c, et, xsBd_sm]
    have app : ¬ (vw n G m).getLast? = some (su_top n G ((puCan n G).2 m)) → (∃ s', fX10_view_J65 (puI k) o1 (puI ((vw n G m).length : Int)) (puI (m : Int)) t = some (.inl s') ∧ (s'.2.2 = puI ((m + 1 : Nat) : Int) ∧ s'.1 = puI ((vw n G (m + 1)).length : Int) ∧ (0 < (vw n G (m + 1)).length → (vw n G (m + 1)).getLast? = some s'.2.1) ∧ ¬ (0 ≤ k ∧ k < ((vw n G (m + 1)).length : Int)))) ∨ (∃ r, fX10_view_J65 (puI k) o1 (puI ((vw n G m).length : Int)) (puI (m : Int)) t = some (.inr r) ∧ ((∃ (j : Nat) (t : Int32), k = (j : Int) ∧ (vw n G ((puCan n G).1 - 1))[j]? = some t ∧ r = .inl (t, o1.1, o1.2.1, o1.2.2.1, o1.2.2.2.1, o1.2.2.2.2.1, o1.2.2.2.2.2.1, o1.2.2.2.2.2.2.1, o1.2.2.2.2.2.2.2.1, o1.2.2.2.2.2.2.2.2.1, o1.2.2.2.2.2.2.2.2.2.1, o1.2.2.2.2.2.2.2.2.2.2.1, o1.2.2.2.2.2.2.2.2.2.2.2.1, o1.2.2.2.2.2.2.2.2.2.2.2.2.1, o1.2.2.2.2.2.2.2.2.2.2.2.2.2.1, o1.2.2.2.2.2.2.2.2.2.2.2.2.2.2.1, o1.2.2.2.2.2.2.2.2.2.2.2.2.2.2.2.1, o1.2.2.2.2.2.2.2.2.2.2.2.2.2.2.2.2.1, o1.2.2.2.2.2.2.2.2.2.2.2.2.2.2.2.2.2.1, o1.2.2.2.2.2.2.2.2.2.2.2.2.2.2.2.2.2.2.1, o1.2.2.2.2.2.2.2.2.2.2.2.2.2.2.2.2.2.2.2.1, o1.2.2.2.2.2.2.2.2.2.2.2.2.2.2.2.2.2.2.2.2.1, o1.2.2.2.2.2.2.2.2.2.2.2.2.2.2.2.2.2.2.2.2.2.1, o1.2.2.2.2.2.2.2.2.2.2.2.2.2.2.2.2.2.2.2.2.2.2.1, o1.2.2.2.2.2.2.2.2.2.2.2.2.2.2.2.2.2.2.2.2.2.2.2.1, o1.2.2.2.2.2.2.2.2.2.2.2.2.2.2.2.2.2.2.2.2.2.2.2.2.1, o1.2.2.2.2.2.2.2.2.2.2.2.2.2.2.2.2.2.2.2.2.2.2.2.2.2.1, o1.2.2.2.2.2.2.2.2.2.2.2.2.2.2.2.2.2.2.2.2.2.2.2.2.2.2.1, o1.2.2.2.2.2.2.2.2.2.2.2.2.2.2.2.2.2.2.2.2.2.2.2.2.2.2.2)) ∨ (¬ (0 ≤ k ∧ k < ((vw n G ((puCan n G).1 - 1)).length : Int)) ∧ r = .inr (puI ((vw n G ((puCan n G).1 - 1)).length : Int))))) := by
      intro d
      have ev : vw n G (m + 1) = vw n G m ++ [t] := by show puE _ _ _ = _; rw [puE_neg c, puE_neg d, ht2]
      have el : (vw n G (m + 1)).length = (vw n G m).length + 1 := by rw [ev, List.length_append, List.length_singleton]
      unfold fX10_view_J65
      by_cases z : ((vw n G m).length : Int) = k
      · rw [xsBr_pos (by rw [z])]
        refine Or.inr ⟨_, rfl, Or.inl ⟨(vw n G m).length, t, z.symm, ?_, rfl⟩⟩
        have g : (vw n G (m + 1))[(vw n G m).length]? = some t := by rw [ev, List.getElem?_append_right (Nat.le_refl _), Nat.sub_self]; rfl
        have g2 := vw_keep g ((puCan n G).1 - 1 - (m + 1))
        rw [show m + 1 + ((puCan n G).1 - 1 - (m + 1)) = (puCan n G).1 - 1 by omega] at g2
        exact g2
      · rw [xsBr_neg (by rw [puI_eq (by omega) (by omega) (by omega) (by omega)]; exact z), xsLt_eq, xsLt_eq, puI_s1, puI_s1]
        refine Or.inl ⟨_, rfl, rfl, ?_, ?_, ?_⟩
        · dsimp only; rw [el]
        · intro _; dsimp only; rw [ev, List.getLast?_append]; rfl
        · rw [el]; omega
    by_cases l0 : (vw n G m).length = 0
    · rw [xsBr_pos (by rw [l0]; decide)]
      refine app (fun q => ?_)
      rw [List.length_eq_zero_iff.mp l0] at q
      exact absurd q (by simp)
    · rw [xsBr_neg (by rw [show (0 : Int32) = puI ((0 : Nat) : Int) by rfl, puI_leN (by omega) (by omega)]; omega)]
      have q5 := q3 (by omega)
      by_cases d : t = y4
      · have ev : vw n G (m + 1) = vw n G m := by show puE _ _ _ = _; rw [puE_neg c, puE_pos (by rw [← ht2, q5, d])]
        rw [xsBr_pos d, xsLt_eq]
        refine Or.inl ⟨_, rfl, rfl, ?_, ?_, ?_⟩
        · dsimp only; rw [ev]
        · dsimp only; rw [ev]; exact q3
        · rw [ev]; exact q4
      · rw [xsBr_neg d]
        refine app (fun q => d ?_)
        rw [q5] at q
        rw [ht2]; exact (Option.some.inj q).symm
  · rintro ⟨y3, y4, y5⟩ ⟨q1, q2, q3, q4⟩
    simp only at q1 q2 q3 q4
    subst q1; subst q2
    simp only [fX10_view_L16]
    rw [puI_s1, xsBr_pos (by rw [hsz, puI_leN (by omega) (by omega)]; omega)]
    exact ⟨_, rfl, Or.inr ⟨q4, rfl⟩⟩
theorem p_mview8 {n : Nat} {G : puG} {w : Nat → Int32} (hv : puVal n G) (hw : puMW n G w) {o1 : _} (hN : (puCan n G).1 ≤ 324) (he : puEvs (puCan n G).1 (puCan n G).2 o1.2.2.2.2.2.2.2.1 o1.2.2.2.2.2.2.2.2.1 o1.2.2.2.2.2.2.2.2.2.1) (hsz : o1.2.2.2.2.2.2.2.2.2.2.1 = puI ((puCan n G).1 : Int)) {met vi : Nat → Int32} {up lo : Nat → Int64} :
    puOk (xsWh (fun s9 => fX11_laysView_L8 w o1 s9.1 s9.2.1 s9.2.2.1 s9.2.2.2.1 s9.2.2.2.2.1 s9.2.2.2.2.2) ((0 : Int32), (0 : Int32), met, up, lo, vi)) (fun r => r.1 = puI ((vw n G ((puCan n G).1 - 1)).length : Int) ∧ ∀ j, j < (vw n G ((puCan n G).1 - 1)).length → (vw n G ((puCan n G).1 - 1))[j]? = some (r.2.2.2.2 j)) := by
  have hn := hv.1
  refine puFor1 ((puCan n G).1 - 1) (fun m z => z.2.1 = puI (m : Int) ∧ z.1 = puI ((vw n G m).length : Int) ∧ ∀ j, j < (vw n G m).length → (vw n G m)[j]? = some (z.2.2.2.2.2 j)) _ ⟨rfl, rfl, fun j hj => absurd hj (by simp [vw])⟩ ?_ ?_
  · rintro m ⟨y3, y4, y5, y6, y7, y8⟩ hm ⟨q1, q2, q3⟩
    simp only at q1 q2 q3
    subst q1; subst q2
    have ll := vw_len n G m
    simp only [fX11_laysView_L8]
    rw [hsz, puI_s1, pu_go (show m + 1 < (puCan n G).1 by omega) (by omega), xsCk_in (by omega) (by omega) (by omega), xsCk_in (by omega) (by omega) (by omega), xsCk_in (by omega) (by omega) (by omega), xsCk_in (by omega) (by omega) (by omega), puI_clN (by omega), puI_clN (by omega), xsBr_iff (vw_x he (by omega) (show m + 1 < (puCan n G).1 by omega))]
    by_cases c : ((puCan n G).2 m).1 = ((puCan n G).2 (m + 1)).1
    · have ev : vw n G (m + 1) = vw n G m := by show puE _ _ _ = _; rw [puE_pos c]
      rw [xsBr_pos c, xsBd_sm]
      simp only [fX11_laysView_J110]
      rw [xsLt_eq]
      refine ⟨_, rfl, ?_, ?_, ?_⟩
      · exact puI_s1 m
      · dsimp only; rw [ev]
      · dsimp only; rw [ev]; exact q3
    obtain ⟨om, eom, om0, g, hst⟩ := p_mstatus hv hw he hN (show m < (puCan n G).1 by omega) (met := y5) (up := y6) (lo := y7)
    have cl := puN_le (fun s => su_al (G s) ((puCan n G).2 m)) n
    have ht2 := su_top_of (su_tp_st hst)
    rw [xsBr_neg c, xsBd_some eom, om0]
    have etop : xsBr (puI (puN (fun s => su_al (G s) ((puCan n G).2 m)) n : Int) = 0) (some (-1 : Int32)) (xsCk (vp_in (puI (puN (fun s => su_al (G s) ((puCan n G).2 m)) n : Int) - 1) 24) (some (om.2.1 (puI (puN (fun s => su_al (G s) ((puCan n G).2 m)) n : Int) - 1).toNatClampNeg))) = some (su_top n G ((puCan n G).2 m)) := by
      rw [← ht2]
      by_cases z : puN (fun s => su_al (G s) ((puCan n G).2 m)) n = 0
      · rw [xsBr_pos (by rw [z]; rfl), if_pos z]
      · have e1 : puI (puN (fun s => su_al (G s) ((puCan n G).2 m)) n : Int) - (1 : Int32) = puI ((puN (fun s => su_al (G s) ((puCan n G).2 m)) n - 1 : Nat) : Int) := by rw [show (1 : Int32) = puI 1 by rfl, puI_sub]; congr 1; omega
        rw [xsBr_neg (by rw [show (0 : Int32) = puI ((0 : Nat) : Int) by rfl, puI_eqN (by omega) (by omega)]; exact z), e1, xsCk_in (by omega) (by omega) (by omega), puI_clN (by omega), if_neg z]
    rw [etop, xsBd_sm]
    have app : ¬ (vw n G m).getLast? = some (su_top n G ((puCan n G).2 m)) → ∃ r', fX11_laysView_J99 (puI ((vw n G m).length : Int)) y8 om (su_top n G ((puCan n G).2 m)) = some r' ∧ r'.1 = puI ((vw n G (m + 1)).length : Int) ∧ ∀ j, j < (vw n G (m + 1)).length → (vw n G (m + 1))[j]? = some (r'.2.2.2.2 j) := by
      intro d
      have ev : vw n G (m + 1) = vw n G m ++ [su_top n G ((puCan n G).2 m)] := by show puE _ _ _ = _; rw [puE_neg c, puE_neg d]
      have el : (vw n G (m + 1)).length = (vw n G m).length + 1 := by rw [ev, List.length_append, List.length_singleton]
      unfold fX11_laysView_J99
      rw [xsCk_in (by omega) (by omega) (by omega), xsLt_eq, xsLt_eq, puI_s1, puI_clN (by omega)]
      refine ⟨_, rfl, by dsimp only; rw [el], fun j hj => ?_⟩
      dsimp only
      by_cases z : j = (vw n G m).length
      · subst z
        rw [puUpd_eq, ev, List.getElem?_append_right (Nat.le_refl _), Nat.sub_self]; rfl
      · rw [puUpd_ne z, ev, List.getElem?_append_left (by omega)]
        exact q3 j (by omega)
    have step : ∃ r', fX11_laysView_J77 (puI ((vw n G m).length : Int)) y8 om (su_top n G ((puCan n G).2 m)) = some r' ∧ r'.1 = puI ((vw n G (m + 1)).length : Int) ∧ ∀ j, j < (vw n G (m + 1)).length → (vw n G (m + 1))[j]? = some (r'.2.2.2.2 j) := by
      unfold fX11_laysView_J77
      by_cases l0 : (vw n G m).length = 0
      · rw [xsBr_pos (by rw [l0]; decide)]
        refine app (fun q => ?_)
        rw [List.length_eq_zero_iff.mp l0] at q
        exact absurd q (by simp)
      · have e1 : puI ((vw n G m).length : Int) - (1 : Int32) = puI (((vw n G m).length - 1 : Nat) : Int) := by rw [show (1 : Int32) = puI 1 by rfl, puI_sub]; congr 1; omega
        have q5 := q3 ((vw n G m).length - 1) (by omega)
        rw [← List.getLast?_eq_getElem?] at q5
        rw [xsBr_neg (by rw [show (0 : Int32) = puI ((0 : Nat) : Int) by rfl, puI_leN (by omega) (by omega)]; omega), e1, xsCk_in (by omega) (by omega) (by omega), puI_clN (by omega)]
        by_cases d : y8 ((vw n G m).length - 1) = su_top n G ((puCan n G).2 m)
        · have ev : vw n G (m + 1) = vw n G m := by show puE _ _ _ = _; rw [puE_neg c, puE_pos (by rw [q5, d])]
          rw [xsBr_pos d]
          exact ⟨_, rfl, by dsimp only; rw [ev], by dsimp only; rw [ev]; exact q3⟩
        · rw [xsBr_neg d]
          refine app (fun q => d ?_)
          rw [q5] at q
          exact Option.some.inj q
    obtain ⟨r', er', h1, h2⟩ := step
    rw [er', xsBd_sm]
    simp only [fX11_laysView_J110]
    rw [xsLt_eq]
    exact ⟨_, rfl, puI_s1 m, h1, h2⟩
  · rintro ⟨y3, y4, y5, y6, y7, y8⟩ ⟨q1, q2, q3⟩
    simp only at q1 q2 q3
    subst q1; subst q2
    simp only [fX11_laysView_L8]
    rw [hsz, puI_s1, xsBr_pos (by rw [puI_leN (by omega) (by omega)]; omega)]
    exact ⟨_, rfl, rfl, q3⟩
theorem q_view : pc_view puRl := by
  intro kIsKept kIsStale hiLatest hiSize scLength scFault scAt scNumber piSegmentsNow enKind enFromX enFromY enToX enToY tiMeetingPairs tiAlongPairs tiSize evSize evCrossings evSegmentsNow grEdges grQueued huSize huBestX huBestY scBytes scTold tiTouching tiLyingAlong evBundle evCrossingOf evEventOf evLeftEvent evRightEvent grDegree grFar grQueue huX huY enX enY enLower evX evY evLower S mThrown mRemembered mHasImage mIsLaid mEvents mCrossings mEdges mTaped mPoint mEnd mBegin mFaultAt mActs mWorld mImage mDraft mEarlier mOne mTwo mShare mCrossingOf mBundle mEventOf mDegree mFrom mTo mMet mTape mFive mTold mFar mViews mHullX mHullY mEndX mEndY mMeets mMeetsOf mX mY mD mHeightUp mHeightLow mEventX mEventY mEventD mUpper mLower hR a0
  obtain ⟨n, G, rw, ri, rh, rt, rk, rm⟩ := hR
  obtain ⟨k, rfl, k1, k2⟩ := puI_ex a0
  obtain ⟨w1, w2, w3⟩ := id rw
  have hn := w1.1
  obtain ⟨o, eo, o0, ho⟩ := p_drawn w1 w2.1 rk (k0 := enKind) (x0 := enX) (y0 := enY) (l0 := enLower) (f0 := enFromX) (f1 := enFromY) (f2 := enToX) (f3 := enToY)
  obtain ⟨v, ev, hv⟩ := p_lays w1 w3 rm (one := mOne) (two := mTwo) (sh := mShare) (x0 := mX) (y0 := mY) (d0 := mD)
  obtain ⟨⟨okp, gN⟩, ⟨-, gtn, gsn⟩, -, -, ⟨gev, gsz⟩, -, -, gen, -⟩ := id ho
  obtain ⟨v1, ⟨-, -⟩, ⟨vev, vsz⟩, -⟩ := id hv
  obtain ⟨r, er, hr⟩ := p_view16 (o1 := o) w1 w2.1 okp.2 gN gev gsz gen gsn k1 k2
  obtain ⟨r2, er2, h1, h2⟩ := p_mview8 (o1 := v) w1 w3 gN vev vsz (met := mMet) (up := mUpper) (lo := mLower) (vi := mViews)
  have ll := vw_len n G ((puCan n G).1 - 1)
  unfold fX10_view fX11_view fX11_laysView
  rw [w2.2.2, xsBd_some eo, xsBd_some er, xsBd_some ev, xsBd_some er2]
  simp only [fX11_laysView_J116, xsBd_sm]
  rw [h1, show (-1 : Int32) = puI (-1) by rfl]
  rcases hr with ⟨j, t, rfl, hj, rfl⟩ | ⟨h, rfl⟩
  · have hl : j < (vw n G ((puCan n G).1 - 1)).length := (List.getElem?_eq_some_iff.mp hj).1
    have h3 := h2 j hl
    rw [hj] at h3
    rw [xsBr_neg (by rw [puI_eq (by omega) (by omega) (by omega) (by omega)]; omega), show (1 : Int32) = puI 1 by rfl, puI_sub, puI_l k1 k2, puI_l (by omega) (by omega), show (0 : Int64) = puJ 0 by rfl, p_in (by omega) (by omega) (by omega), xsBd_sm, pu_bt (by omega), xsCk_in (by omega) (by omega) (by omega), puI_clN (by omega)]
    simp only [xsSm]
    exact ⟨_, _, rfl, rfl, Option.some.inj h3, n, G, rw, ri, rh, rt, Or.inr ⟨o0, ho⟩, Or.inr hv⟩
  · simp only [xsSm, fX10_view_J86]
    rw [show (-1 : Int32) = puI (-1) by rfl]
    by_cases c2 : k = -1
    · rw [xsBr_pos (by rw [c2]), xsBr_pos (by rw [c2])]
      exact ⟨_, _, rfl, rfl, rfl, n, G, rw, ri, rh, rt, Or.inr ⟨o0, ho⟩, Or.inr hv⟩
    · have n2 : ¬ puI k = puI (-1) := by rw [puI_eq (by omega) (by omega) (by omega) (by omega)]; exact c2
      rw [xsBr_neg n2, xsBr_neg n2, show (1 : Int32) = puI 1 by rfl, puI_sub, puI_l k1 k2, puI_l (by omega) (by omega), show (0 : Int64) = puJ 0 by rfl, p_in (by omega) (by omega) (by omega), xsBd_sm, pu_bf (by omega)]
      exact ⟨_, _, rfl, rfl, rfl, n, G, rw, ri, rh, rt, Or.inr ⟨o0, ho⟩, Or.inr hv⟩

