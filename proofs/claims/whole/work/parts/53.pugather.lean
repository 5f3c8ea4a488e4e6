/-! PURE: the class draws: all points; who has them; which are crossings -/
theorem p_draw28 {n : Nat} {G : puG} {lx ly rx ry : Nat → Int32} (hv : puVal n G) (hk : puKW n G lx ly rx ry) {k0 : Int32} {x0 y0 l0 : Int64} {f0 f1 f2 f3 : Int32} {t l : Nat → Int32} {m al : Int32} {ex ey ed : Nat → Int64} {sz : Int32} (h : puDr n G (fun s => s < 0) 0 0 0 t l m al ex ey ed sz) :
    puOk (xsWh (fun s22 => fX5_draw_L28 lx ly rx ry (puI (n : Int)) s22.1 s22.2.1 s22.2.2.1 s22.2.2.2.1 s22.2.2.2.2.1 s22.2.2.2.2.2.1 s22.2.2.2.2.2.2.1 s22.2.2.2.2.2.2.2.1 s22.2.2.2.2.2.2.2.2.1 s22.2.2.2.2.2.2.2.2.2.1 s22.2.2.2.2.2.2.2.2.2.2.1 s22.2.2.2.2.2.2.2.2.2.2.2.1 s22.2.2.2.2.2.2.2.2.2.2.2.2.1 s22.2.2.2.2.2.2.2.2.2.2.2.2.2.1 s22.2.2.2.2.2.2.2.2.2.2.2.2.2.2.1 s22.2.2.2.2.2.2.2.2.2.2.2.2.2.2.2.1 s22.2.2.2.2.2.2.2.2.2.2.2.2.2.2.2.2) ((0 : Int32), k0, x0, y0, l0, f0, f1, f2, f3, t, l, m, al, ex, ey, ed, sz))
      (fun r => puDr n G (fun s => s < n) n 0 324 r.2.2.2.2.2.2.2.2.1 r.2.2.2.2.2.2.2.2.2.1 r.2.2.2.2.2.2.2.2.2.2.1 r.2.2.2.2.2.2.2.2.2.2.2.1 r.2.2.2.2.2.2.2.2.2.2.2.2.1 r.2.2.2.2.2.2.2.2.2.2.2.2.2.1 r.2.2.2.2.2.2.2.2.2.2.2.2.2.2.1 r.2.2.2.2.2.2.2.2.2.2.2.2.2.2.2) := by
  have hn := hv.1
  have h' : puDr n G (fun s => s < 0) 0 0 (2 * 0 + puTri 0) t l m al ex ey ed sz := h
  refine puFor1 n (fun a z => z.1 = puI (a : Int) ∧ puDr n G (fun s => s < a) a 0 (2 * a + puTri a) z.2.2.2.2.2.2.2.2.2.1 z.2.2.2.2.2.2.2.2.2.2.1 z.2.2.2.2.2.2.2.2.2.2.2.1 z.2.2.2.2.2.2.2.2.2.2.2.2.1 z.2.2.2.2.2.2.2.2.2.2.2.2.2.1 z.2.2.2.2.2.2.2.2.2.2.2.2.2.2.1 z.2.2.2.2.2.2.2.2.2.2.2.2.2.2.2.1 z.2.2.2.2.2.2.2.2.2.2.2.2.2.2.2.2) _ ⟨rfl, h'⟩ ?_ ?_
  · rintro a ⟨aa, k0, x0, y0, l0, f0, f1, f2, f3, t, l, m, al, ex, ey, ed, sz⟩ ha ⟨rfl, h1, h2, h3, h4, N, P, h5, h6, h7, h8, h9⟩
    simp only at h1 h2 h3 h4 h5 h6 h7 h8 h9
    subst h5
    have tr := puTri_le (a := a + 1) (by omega)
    rw [puTri_s] at tr
    have va := hv.2 a ha
    obtain ⟨b1, b2, b3, b4⟩ := va.1
    obtain ⟨q1, q2, q3, q4⟩ := hk a ha
    simp only [fX5_draw_L28]
    rw [xsBr_neg (by rw [puI_leN (by omega) (by omega)]; omega), xsCk_in (by omega) (by omega) (by omega), xsCk_in (by omega) (by omega) (by omega), puI_clN (by omega), q1, q2, puI_l (by omega) (by omega), puI_l (by omega) (by omega)]
    obtain ⟨o3, eo3, M, Q, g1, g2, g3, g4, g5⟩ := p_insert h6 h7 (puRep_A va) (show N < 324 by omega)
    rw [show (1 : Int64) = puJ 1 by rfl, xsBd_some eo3, xsCk_in (by omega) (by omega) (by omega), xsCk_in (by omega) (by omega) (by omega), q3, q4, puI_l (by omega) (by omega), puI_l (by omega) (by omega), g1]
    obtain ⟨o4, eo4, M2, Q2, i1, i2, i3, i4, i5⟩ := p_insert g2 g3 (puRep_Z va) (show M < 324 by omega)
    rw [xsBd_some eo4]
    have hd : puDr n G (fun s => s < a + 1) a 0 (2 * a + puTri a + 2) t l m al o4.1 o4.2.1 o4.2.2.1 o4.2.2.2 := by
      refine ⟨h1, h2, h3, h4, M2, Q2, i1, i2, i3, fun p => ?_, by omega⟩
      rw [i4, g4, h8]
      unfold puPk
      constructor
      · rintro (q | q | ⟨s, q1, q2⟩ | q)
        · exact Or.inl ⟨a, by omega, Or.inr q⟩
        · exact Or.inl ⟨a, by omega, Or.inl q⟩
        · exact Or.inl ⟨s, by omega, q2⟩
        · exact Or.inr q
      · rintro (⟨s, u1, u2⟩ | q)
        · by_cases e : s = a
          · rw [e] at u2
            exact u2.elim (fun z => Or.inr (Or.inl z)) (fun z => Or.inl z)
          · exact Or.inr (Or.inr (Or.inl ⟨s, by omega, u2⟩))
        · exact Or.inr (Or.inr (Or.inr q))
    obtain ⟨r, er, hr⟩ := p_draw82 hv hk ha (fun s => s < a + 1) (show 2 * a + puTri a + 2 + a ≤ 324 by omega) hd (k0 := k0) (x0 := x0) (y0 := y0) (l0 := l0) (f0 := f0) (f1 := f1) (f2 := f2) (f3 := f3)
    rw [xsBd_some er]
    simp only [fX5_draw_J159]
    rw [xsLt_eq, puI_s1]
    obtain ⟨d1, d2, d3, d4, N3, P3, d5, d6, d7, d8, d9⟩ := hr
    refine ⟨_, rfl, rfl, puTie_c d1 (fun s i _ _ => ?_), puTie_c d2 (fun s i _ _ => ?_), d3, d4, N3, P3, d5, d6, d7, fun p => ?_, by rw [puTri_s]; omega⟩
    · have : puTf a a s i ↔ puTf (a + 1) 0 s i := by unfold puTf; omega
      rw [this]
    · have : puTf a a s i ↔ puTf (a + 1) 0 s i := by unfold puTf; omega
      rw [this]
    · rw [d8]
      exact puPk_c (fun s => Iff.rfl) (fun x y => by omega) p
  · rintro ⟨aa, k0, x0, y0, l0, f0, f1, f2, f3, t, l, m, al, ex, ey, ed, sz⟩ ⟨rfl, h⟩
    simp only [fX5_draw_L28]
    rw [xsBr_pos (by rw [puI_leN (by omega) (by omega)]; omega)]
    obtain ⟨d1, d2, d3, d4, N3, P3, d5, d6, d7, d8, d9⟩ := h
    have tr := puTri_le (a := n) hn
    exact ⟨_, rfl, d1, d2, d3, d4, N3, P3, d5, d6, d7, d8, by omega⟩
theorem p_tclear {n : Nat} (hn : n ≤ 24) {t l : Nat → Int32} {m al sz : Int32} : puOk (fX9_clear t l m al sz (puI (n : Int))) (fun o => puTie n o.1 (fun _ _ => False) ∧ puTie n o.2.1 (fun _ _ => False) ∧ o.2.2.1 = 0 ∧ o.2.2.2.1 = 0 ∧ o.2.2.2.2 = puI (n : Int)) := by
  have key : puOk (xsWh (fun s4 => fX9_clear_L2 (puI (n : Int)) s4.1 s4.2.1 s4.2.2) ((0 : Int32), t, l)) (fun r => puTie n r.1 (fun _ _ => False) ∧ puTie n r.2 (fun _ _ => False)) := by
    refine puFor1 n (fun k z => z.1 = puI (k : Int) ∧ puTie k z.2.1 (fun _ _ => False) ∧ puTie k z.2.2 (fun _ _ => False)) _ ⟨rfl, fun s hs => by omega, fun s hs => by omega⟩ ?_ ?_
    · rintro k ⟨i, u, v⟩ hk ⟨rfl, h1, h2⟩
      simp only [fX9_clear_L2]
      rw [xsBr_neg (by rw [puI_leN (by omega) (by omega)]; omega)]
      simp (disch := omega) only [xsCk_in, xsLt_eq, puI_clN]
      rw [puI_s1]
      refine ⟨_, rfl, rfl, fun s hs => ?_, fun s hs => ?_⟩
      · show puSt (upd u k 0 s) _
        by_cases e : s = k
        · rw [e, puUpd_eq]; exact puSt_0
        · rw [puUpd_ne e]; exact h1 s (by omega)
      · show puSt (upd v k 0 s) _
        by_cases e : s = k
        · rw [e, puUpd_eq]; exact puSt_0
        · rw [puUpd_ne e]; exact h2 s (by omega)
    · rintro ⟨i, u, v⟩ ⟨rfl, h1, h2⟩
      simp only [fX9_clear_L2]
      rw [xsBr_pos (by rw [puI_leN (by omega) (by omega)]; omega)]
      exact ⟨_, rfl, h1, h2⟩
  obtain ⟨r, e, h1, h2⟩ := key
  unfold fX9_clear
  rw [xsBd_some e]
  exact puOk_some ⟨h1, h2, rfl, rfl, rfl⟩
/-! of each EVENT: who has it -/
theorem p_height {n : Nat} {G : puG} {lx ly rx ry : Nat → Int32} (hv : puVal n G) (hk : puKW n G lx ly rx ry) {N : Nat} {P : Nat → puP} {ex ey ed : Nat → Int64} (he : puEvs N P ex ey ed) (hN : N ≤ 324) {s k : Nat} (hs : s < n) (hkN : k < N) :
    ∃ X Y D : Int, fX1_heightOf ex ey ed lx ly rx ry (puI (s : Int)) (puI (k : Int)) = some (puJ (puH (G s) * (X - (G s).1 * D) - puW (G s) * (Y - (G s).2.1 * D))) ∧ ((X : Rat) = ((P k).1) * (D : Rat) ∧ (Y : Rat) = ((P k).2) * (D : Rat)) ∧ (0 < D ∧ D ≤ 7984008) ∧ (-(999 * D) ≤ X ∧ X ≤ 999 * D) ∧ (-(999 * D) ≤ Y ∧ Y ≤ 999 * D) ∧ ex k = puJ X ∧ ey k = puJ Y ∧ ed k = puJ D ∧ (-64000000000000 ≤ puH (G s) * (X - (G s).1 * D) - puW (G s) * (Y - (G s).2.1 * D) ∧ puH (G s) * (X - (G s).1 * D) - puW (G s) * (Y - (G s).2.1 * D) ≤ 64000000000000) := by
  have hn := hv.1
  have v := hv.2 s hs
  have q := hk s hs
  obtain ⟨X, Y, D, e1, e2, e3, hD, r, bX, bY⟩ := he k hkN
  have w1 := p_width q v (by omega); have w2 := p_rise q v (by omega)
  have bw := puV_w v; have bh := puV_h v
  obtain ⟨q1, q2, q3, q4⟩ := q
  obtain ⟨⟨b1, b2, b3, b4⟩, -, -⟩ := v
  have k1 := pu_mb (v := (G s).1) (w := D) 999 7984008 (by omega) (by omega) (by omega) (by omega)
  have k2 := pu_mb (v := (G s).2.1) (w := D) 999 7984008 (by omega) (by omega) (by omega) (by omega)
  have k3 := pu_mb (v := puH (G s)) (w := X - (G s).1 * D) 1998 15960000000 (by omega) (by omega) (by omega) (by omega)
  have k4 := pu_mb (v := puW (G s)) (w := Y - (G s).2.1 * D) 1998 15960000000 (by omega) (by omega) (by omega) (by omega)
  refine ⟨X, Y, D, ?_, r, hD, bX, bY, e1, e2, e3, by omega⟩
  unfold fX1_heightOf
  rw [w1, w2]
  simp (disch := omega) only [xsBd_sm, xsCk_in, puI_clN, e1, e2, e3, q1, q2, puI_l, puJ_mul, puJ_sub]
theorem puLn_int {q : puS} {X Y D : Int} {p : puP} (hD : 0 < D) (r1 : (X : Rat) = p.1 * (D : Rat)) (r2 : (Y : Rat) = p.2 * (D : Rat)) : puH q * (X - q.1 * D) - puW q * (Y - q.2.1 * D) = 0 ↔ puLn q p := by
  have d : 0 < (D : Rat) := Rat.intCast_pos.mpr hD
  have d0 : (D : Rat) ≠ 0 := by grind
  unfold puLn
  rw [← Rat.intCast_eq_zero_iff]
  simp only [Rat.intCast_mul, Rat.intCast_sub, r1, r2]
  constructor
  · intro h
    have : ((p.1 - (q.1 : Rat)) * (puH q : Rat) - (p.2 - (q.2.1 : Rat)) * (puW q : Rat)) * (D : Rat) = 0 := by grind
    have := (Rat.mul_eq_zero.mp this).resolve_right d0
    grind
  · intro h; grind
/-- where its ENDS stand among the EVENTS -/
def puEnd (n : Nat) (G : puG) (N : Nat) (P : Nat → puP) (le re : Nat → Int32) : Prop := ∀ s, s < n → le s = puI (puIx N P (puA (G s)) : Int) ∧ re s = puI (puIx N P (puZ (G s)) : Int)
theorem puEvt_A {n : Nat} {G : puG} {N : Nat} {P : Nat → puP} (h : puEvt n G N P) {s : Nat} (hs : s < n) : (puIx N P (puA (G s)) < N ∧ P (puIx N P (puA (G s))) = puA (G s)) ∧ (puIx N P (puZ (G s)) < N ∧ P (puIx N P (puZ (G s))) = puZ (G s)) :=
  ⟨(puIx_me h.1).mp ((h.2 _).mpr (Or.inl ⟨s, hs, Or.inl rfl⟩)), (puIx_me h.1).mp ((h.2 _).mpr (Or.inl ⟨s, hs, Or.inr rfl⟩))⟩
theorem puEnd_le {n : Nat} {G : puG} {N : Nat} {P : Nat → puP} (h : puEvt n G N P) {s k : Nat} (hs : s < n) (hk : k < N) : (puIx N P (puA (G s)) ≤ k ↔ puLe (puA (G s)) (P k)) ∧ (k ≤ puIx N P (puZ (G s)) ↔ puLe (P k) (puZ (G s))) := by
  obtain ⟨⟨a1, a2⟩, z1, z2⟩ := puEvt_A h hs
  constructor
  · rw [← puSo_le h.1 a1 hk, a2]
  · rw [← puSo_le h.1 hk z1, z2]
theorem p_bundleOf {n : Nat} {G : puG} {lx ly rx ry : Nat → Int32} (hv : puVal n G) (hk : puKW n G lx ly rx ry) {N : Nat} {P : Nat → puP} {ex ey ed : Nat → Int64} (he : puEvs N P ex ey ed) (hE : puEvt n G N P) (hN : N ≤ 324) {le re : Nat → Int32} (hle : puEnd n G N P le re) {k : Nat} (hkN : k < N) :
    puOk (fX1_bundleOf ex ey ed le re (puI (n : Int)) lx ly rx ry (puI (k : Int))) (fun x => puSt x (fun s => s < n ∧ puOn (G s) (P k))) := by
  have hn := hv.1
  have key : puOk (xsWh (fun s3 => fX1_bundleOf_L5 ex ey ed le re (puI (n : Int)) lx ly rx ry (puI (k : Int)) s3.1 s3.2) ((0 : Int32), (0 : Int32))) (fun x => puSt x (fun s => s < n ∧ puOn (G s) (P k))) := by
    refine puFor1 n (fun j z => z.2 = puI (j : Int) ∧ puSt z.1 (fun s => s < j ∧ puOn (G s) (P k))) _ ⟨rfl, puSt_c puSt_0 (fun i _ => ⟨fun q => q.elim, fun q => absurd q.1 (by omega)⟩)⟩ ?_ ?_
    · rintro j ⟨x, i⟩ hj ⟨rfl, h1⟩
      simp only at h1
      simp only [fX1_bundleOf_L5]
      rw [xsBr_neg (by rw [puI_leN (by omega) (by omega)]; omega), xsCk_in (by omega) (by omega) (by omega), puI_clN (by omega), (hle j hj).1, (hle j hj).2]
      obtain ⟨l1, l2⟩ := puEnd_le hE hj hkN
      have i1 := puIx_le N P (puA (G j)); have i2 := puIx_le N P (puZ (G j))
      obtain ⟨X, Y, D, eh, ⟨r1, r2⟩, hD, bX, bY, -, -, -, hb⟩ := p_height hv hk he hN hj hkN
      have ln := puLn_int (q := G j) hD.1 r1 r2
      have fin : ∀ y, puSt y (fun s => (s < j ∧ puOn (G s) (P k)) ∨ (s = j ∧ puOn (G j) (P k))) → ∃ s', fX1_bundleOf_J56 (puI (j : Int)) y = some (.inl s') ∧ s'.2 = puI ((j + 1 : Nat) : Int) ∧ puSt s'.1 (fun s => s < j + 1 ∧ puOn (G s) (P k)) := by
        intro y hy
        simp only [fX1_bundleOf_J56]
        rw [xsLt_eq, puI_s1]
        refine ⟨_, rfl, rfl, puSt_c hy (fun i _ => ?_)⟩
        constructor
        · rintro (q | ⟨rfl, q⟩)
          · exact ⟨by omega, q.2⟩
          · exact ⟨by omega, q⟩
        · rintro ⟨q1, q2⟩
          by_cases e : i = j
          · subst e; exact Or.inr ⟨rfl, q2⟩
          · exact Or.inl ⟨by omega, q2⟩
      have no : ¬ puOn (G j) (P k) → puSt x (fun s => (s < j ∧ puOn (G s) (P k)) ∨ (s = j ∧ puOn (G j) (P k))) := fun c => puSt_c h1 (fun i _ => ⟨Or.inl, fun q => q.elim id (fun z => absurd z.2 c)⟩)
      by_cases c1 : k < puIx N P (puA (G j))
      · rw [xsBr_pos (by rw [puI_ltN (by omega) (by omega)]; exact c1), xsBd_sm]
        exact fin x (no (fun q => by have := l1.mpr q.2.1; omega))
      · rw [xsBr_neg (by rw [puI_ltN (by omega) (by omega)]; exact c1), xsCk_in (by omega) (by omega) (by omega)]
        by_cases c2 : puIx N P (puZ (G j)) < k
        · rw [xsBr_pos (by rw [puI_ltN (by omega) (by omega)]; exact c2), xsBd_sm]
          exact fin x (no (fun q => by have := l2.mpr q.2.2; omega))
        · rw [xsBr_neg (by rw [puI_ltN (by omega) (by omega)]; exact c2), eh, xsBd_sm]
          by_cases c3 : puH (G j) * (X - (G j).1 * D) - puW (G j) * (Y - (G j).2.1 * D) = 0
          · rw [xsBr_pos (by rw [c3]; rfl), xsLt_eq, xsBd_sm]
            have on : puOn (G j) (P k) := ⟨ln.mp c3, l1.mp (by omega), l2.mp (by omega)⟩
            exact fin _ (puSt_c (puSt_or h1 (puSt_1 (s := j) (by omega))) (fun i _ => by
              constructor
              · rintro (q | q)
                · exact Or.inl q
                · exact Or.inr ⟨q, on⟩
              · rintro (q | q)
                · exact Or.inl q
                · exact Or.inr q.1))
          · rw [xsBr_neg (by rw [show (0 : Int64) = puJ 0 by rfl, puJ_eq (by omega) (by omega) (by omega) (by omega)]; exact c3), xsBd_sm]
            exact fin x (no (fun q => c3 (ln.mpr q.1)))
    · rintro ⟨x, i⟩ ⟨rfl, h1⟩
      simp only [fX1_bundleOf_L5]
      rw [xsBr_pos (by rw [puI_leN (by omega) (by omega)]; omega)]
      exact ⟨_, rfl, h1⟩
  obtain ⟨r, e, h1⟩ := key
  unfold fX1_bundleOf
  rw [xsBd_some e]
  exact puOk_some h1
