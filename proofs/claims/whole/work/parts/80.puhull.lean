/-! PURE: HULL told -/
theorem pu_labs {z : Int} (h : -1000000000 ≤ z ∧ z ≤ 1000000000) : (if (0 : Int64) < puJ z then puJ z else -puJ z) = puJ (z.natAbs : Int) := by
  rw [show (0 : Int64) = puJ 0 by rfl]
  by_cases c : 0 < z
  · rw [if_pos ((puJ_lt (by omega) (by omega) (by omega) (by omega)).mpr c)]; congr 1; omega
  · rw [if_neg (fun q => c ((puJ_lt (by omega) (by omega) (by omega) (by omega)).mp q)), puJ_neg]; congr 1; omega
theorem pu_iabs {z : Int} (h : -1000000000 ≤ z ∧ z ≤ 1000000000) : (if (0 : Int32) ≤ puI z then puI z else 0 - puI z) = puI (z.natAbs : Int) := by
  rw [show (0 : Int32) = puI 0 by rfl]
  by_cases c : 0 ≤ z
  · rw [if_pos ((puI_le (by omega) (by omega) (by omega) (by omega)).mpr c)]; congr 1; omega
  · rw [if_neg (fun q => c ((puI_le (by omega) (by omega) (by omega) (by omega)).mp q)), puI_sub]; congr 1; omega
theorem hu_x_bd {p b e : Int × Int} (hp : hu_in p) (hb : hu_in b) (he : hu_in e) : -8000000 ≤ hu_x p b e ∧ hu_x p b e ≤ 8000000 := by
  unfold hu_in at *
  have k1 := pu_mb (v := b.1 - p.1) (w := e.2 - p.2) 1998 1998 (by omega) (by omega) (by omega) (by omega)
  have k2 := pu_mb (v := b.2 - p.2) (w := e.1 - p.1) 1998 1998 (by omega) (by omega) (by omega) (by omega)
  unfold hu_x; omega
theorem hu_d_bd {p e : Int × Int} (hp : hu_in p) (he : hu_in e) : 0 ≤ hu_d p e ∧ hu_d p e ≤ 4000 := by
  unfold hu_in at *
  unfold hu_d; omega
theorem hu_s_in {p b e : Int × Int} (hb : hu_in b) (he : hu_in e) : hu_in (hu_s p b e) := by
  unfold hu_s
  by_cases c : hu_c p b e
  · rw [puE_pos c]; exact he
  · rw [puE_neg c]; exact hb
theorem hu_b_in {n : Nat} {G : puG} (hv : puVal n G) {p : Int × Int} (hp : hu_in p) : ∀ m, m ≤ 2 * n → hu_in (hu_b G p m)
  | 0, _ => hp
  | m + 1, h => hu_s_in (hu_b_in hv hp m (by omega)) (hu_e_bd hv (by omega))
theorem p_tryNext {p b e : Int × Int} (hp : hu_in p) (hb : hu_in b) (he : hu_in e) : fX4_tryNext (puI b.1) (puI b.2) (puI p.1) (puI p.2) (puI e.1) (puI e.2) = some (puI (hu_s p b e).1, puI (hu_s p b e).2) := by
  have xb := hu_x_bd hp hb he
  have d1 := hu_d_bd hp hb
  have d2 := hu_d_bd hp he
  unfold hu_in at hp hb he
  unfold fX4_tryNext
  simp (disch := omega) only [puI_sub, puI_l, xsLt_eq, puJ_mul, puJ_sub, pu_labs, puJ_add]
  rw [show (b.1 - p.1) * (e.2 - p.2) - (b.2 - p.2) * (e.1 - p.1) = hu_x p b e by rfl, show ((e.1 - p.1).natAbs : Int) + ((e.2 - p.2).natAbs : Int) = hu_d p e by rfl, show ((b.1 - p.1).natAbs : Int) + ((b.2 - p.2).natAbs : Int) = hu_d p b by rfl, xsBr_01, xsBd_sm, puB_iff (not_congr (puJ_le (a := hu_d p e) (b := hu_d p b) (by omega) (by omega) (by omega) (by omega)))]
  unfold fX4_tryNext_J75 fX4_tryNext_J96 hu_s hu_c
  rw [show (0 : Int64) = puJ 0 by rfl]
  by_cases c : hu_x p b e < 0
  · rw [xsBr_pos ((puJ_lt (by omega) (by omega) (by omega) (by omega)).mpr c), puE_pos (Or.inl c)]
  · rw [xsBr_neg (fun q => c ((puJ_lt (by omega) (by omega) (by omega) (by omega)).mp q))]
    by_cases d : hu_x p b e = 0
    · rw [xsBr_pos (by rw [d])]
      by_cases f : hu_d p e ≤ hu_d p b
      · rw [pu_bf (fun q => q f), puE_neg (by omega)]
      · rw [pu_bt f, puE_pos (Or.inr ⟨d, by omega⟩)]
    · rw [xsBr_neg (by rw [puJ_eq (by omega) (by omega) (by omega) (by omega)]; exact d), puE_neg (by omega)]
theorem hu_ev {G : puG} (s : Nat) : hu_e G (2 * s) = puAi (G s) ∧ hu_e G (2 * s + 1) = puZi (G s) := by
  unfold hu_e
  rw [if_pos (by omega), if_neg (by omega), show 2 * s / 2 = s by omega, show (2 * s + 1) / 2 = s by omega]
  exact ⟨rfl, rfl⟩
theorem hu_AZ {q : puS} (v : puV q) {p : Int × Int} (h : ¬ puLi (puAi q) p) : ¬ puLi (puZi q) p := by
  have d := v.2.2
  unfold puLi puAi puZi puW puH at *
  simp only at *
  omega
theorem p_least {n : Nat} {G : puG} {lx ly rx ry : Nat → Int32} (hv : puVal n G) (hk : puKW n G lx ly rx ry) (h0 : 0 < n) {x0 y0 : Int32} : puOk (fX4_findLeast x0 y0 lx ly (puI (n : Int))) (fun o => ∃ p, hu_l n G p ∧ o.1 = puI p.1 ∧ o.2 = puI p.2) := by
  have hn := hv.1
  obtain ⟨l1, l2, -, -⟩ := hk 0 h0
  have key : puOk (xsWh (fun s8 => fX4_findLeast_L22 lx ly (puI (n : Int)) s8.1 s8.2.1 s8.2.2) ((1 : Int32), lx 0, ly 0)) (fun r => ∃ p, hu_l n G p ∧ r.1 = puI p.1 ∧ r.2 = puI p.2) := by
    refine puFor n (fun k z => z.1 = puI (k : Int) ∧ ∃ s, s < k ∧ z.2.1 = puI (G s).1 ∧ z.2.2 = puI (G s).2.1 ∧ ∀ j, j < k → ¬ puLi (puAi (G j)) (puAi (G s))) _ ?_ ?_ 1 _ h0 ⟨rfl, 0, by omega, l1, l2, fun j hj => ?_⟩
    · rintro k ⟨i, x, y⟩ hkn ⟨q1, s, hs, q2, q3, q4⟩
      simp only at q1 q2 q3
      subst q1; subst q2; subst q3
      obtain ⟨⟨a1, a2, -, -⟩, -, -⟩ := hv.2 s (by omega)
      obtain ⟨⟨b1, b2, -, -⟩, -, -⟩ := hv.2 k hkn
      obtain ⟨k1, k2, -, -⟩ := hk k hkn
      have take : puLi (puAi (G k)) (puAi (G s)) → ∃ s', fX4_findLeast_J89 (puI (k : Int)) (puI (G k).1) (puI (G k).2.1) = some (.inl s') ∧ s'.1 = puI ((k + 1 : Nat) : Int) ∧ ∃ s, s < k + 1 ∧ s'.2.1 = puI (G s).1 ∧ s'.2.2 = puI (G s).2.1 ∧ ∀ j, j < k + 1 → ¬ puLi (puAi (G j)) (puAi (G s)) := by
        intro c
        simp only [fX4_findLeast_J89]
        rw [xsLt_eq, puI_s1]
        refine ⟨_, rfl, rfl, k, by omega, rfl, rfl, fun j hj => ?_⟩
        by_cases e : j = k
        · subst e; unfold puLi; omega
        · have := q4 j (by omega)
          unfold puLi puAi at *
          simp only at *
          omega
      have keep : ¬ puLi (puAi (G k)) (puAi (G s)) → ∃ s', fX4_findLeast_J89 (puI (k : Int)) (puI (G s).1) (puI (G s).2.1) = some (.inl s') ∧ s'.1 = puI ((k + 1 : Nat) : Int) ∧ ∃ s, s < k + 1 ∧ s'.2.1 = puI (G s).1 ∧ s'.2.2 = puI (G s).2.1 ∧ ∀ j, j < k + 1 → ¬ puLi (puAi (G j)) (puAi (G s)) := by
        intro c
        simp only [fX4_findLeast_J89]
        rw [xsLt_eq, puI_s1]
        refine ⟨_, rfl, rfl, s, by omega, rfl, rfl, fun j hj => ?_⟩
        by_cases e : j = k
        · subst e; exact c
        · exact q4 j (by omega)
      have j69 : fX4_findLeast_J69 lx ly (puI (k : Int)) = some (puI (G k).1, puI (G k).2.1) := by
        unfold fX4_findLeast_J69
        rw [xsCk_in (by omega) (by omega) (by omega), xsLt_eq, xsCk_in (by omega) (by omega) (by omega), xsLt_eq, puI_clN (by omega), k1, k2]
      simp only [fX4_findLeast_L22]
      rw [pu_go hkn (by omega), xsCk_in (by omega) (by omega) (by omega), j69, puI_clN (by omega), k1, k2]
      rw [xsCk_in (by omega) (by omega) (by omega), xsCk_in (by omega) (by omega) (by omega)]
      by_cases c : (G k).1 < (G s).1
      · rw [xsBr_pos ((puI_lt (by omega) (by omega) (by omega) (by omega)).mpr c), xsBd_sm]
        exact Or.inl (take (Or.inl c))
      · rw [xsBr_neg (fun q => c ((puI_lt (by omega) (by omega) (by omega) (by omega)).mp q))]
        by_cases d : (G k).1 = (G s).1
        · rw [xsBr_pos (by rw [d])]
          by_cases f : (G s).2.1 ≤ (G k).2.1
          · rw [xsBr_pos ((puI_le (by omega) (by omega) (by omega) (by omega)).mpr f), xsBd_sm]
            exact Or.inl (keep (by unfold puLi puAi; simp only; omega))
          · rw [xsBr_neg (fun q => f ((puI_le (by omega) (by omega) (by omega) (by omega)).mp q)), xsBd_sm]
            exact Or.inl (take (Or.inr ⟨d, by unfold puAi; simp only; omega⟩))
        · rw [xsBr_neg (by rw [puI_eq (by omega) (by omega) (by omega) (by omega)]; exact d), xsBd_sm]
          exact Or.inl (keep (by unfold puLi puAi; simp only; omega))
    · rintro ⟨i, x, y⟩ ⟨q1, s, hs, q2, q3, q4⟩
      simp only at q1 q2 q3
      subst q1; subst q2; subst q3
      simp only [fX4_findLeast_L22]
      rw [pu_out (by omega)]
      refine ⟨_, rfl, puAi (G s), ⟨⟨2 * s, by omega, (hu_ev s).1⟩, fun j hj => ?_⟩, rfl, rfl⟩
      unfold hu_e
      by_cases c : j % 2 = 0
      · rw [if_pos c]; exact q4 _ (by omega)
      · rw [if_neg c]; exact hu_AZ (hv.2 _ (by omega)) (q4 _ (by omega))
    · obtain rfl : j = 0 := by omega
      unfold puLi; omega
  obtain ⟨r, er, hr⟩ := key
  unfold fX4_findLeast
  rw [show (0 : Int32) = puI ((0 : Nat) : Int) by rfl, xsCk_in (by omega) (by omega) (by omega), xsLt_eq, xsCk_in (by omega) (by omega) (by omega), xsLt_eq, puI_clN (by omega), xsBd_some er]
  exact puOk_some hr
theorem p_wrap55 {n : Nat} {G : puG} {lx ly rx ry : Nat → Int32} (hv : puVal n G) (hk : puKW n G lx ly rx ry) {i : Nat} (hi : i < 48) {f g : Nat → Int32} {p : Int × Int} (hp : hu_in p) (hf : f i = puI p.1) (hg : g i = puI p.2) : xsWh (fun s23 => fX4_wrap_L55 lx ly rx ry (puI (n : Int)) (puI (i : Int)) f g s23.1 s23.2.1 s23.2.2) ((0 : Int32), puI p.1, puI p.2) = some (puI (hu_b G p (2 * n)).1, puI (hu_b G p (2 * n)).2) := by
  have hn := hv.1
  have key : puOk (xsWh (fun s23 => fX4_wrap_L55 lx ly rx ry (puI (n : Int)) (puI (i : Int)) f g s23.1 s23.2.1 s23.2.2) ((0 : Int32), puI p.1, puI p.2)) (fun r => r = (puI (hu_b G p (2 * n)).1, puI (hu_b G p (2 * n)).2)) := by
    refine puFor1 n (fun k z => z.1 = puI (k : Int) ∧ z.2.1 = puI (hu_b G p (2 * k)).1 ∧ z.2.2 = puI (hu_b G p (2 * k)).2) _ ⟨rfl, rfl, rfl⟩ ?_ ?_
    · rintro k ⟨y1, y2, y3⟩ hkn ⟨q1, q2, q3⟩
      simp only at q1 q2 q3
      subst q1; subst q2; subst q3
      obtain ⟨k1, k2, k3, k4⟩ := hk k hkn
      obtain ⟨e1, e2⟩ := hu_ev (G := G) k
      have b0 := hu_b_in hv hp (2 * k) (by omega)
      have h1 := hu_e_bd hv (j := 2 * k) (by omega)
      have h2 := hu_e_bd hv (j := 2 * k + 1) (by omega)
      have b1 := hu_b_in hv hp (2 * k + 1) (by omega)
      have t1 := p_tryNext hp b0 h1
      have t2 := p_tryNext hp b1 h2
      rw [e1] at t1
      rw [e2] at t2
      have s1 : hu_s p (hu_b G p (2 * k)) (puAi (G k)) = hu_b G p (2 * k + 1) := by rw [← e1]; rfl
      have s2 : hu_s p (hu_b G p (2 * k + 1)) (puZi (G k)) = hu_b G p (2 * (k + 1)) := by rw [← e2]; rfl
      rw [s1] at t1
      rw [s2] at t2
      unfold puAi at t1
      unfold puZi at t2
      simp only at t1 t2
      simp only [fX4_wrap_L55]
      simp (disch := omega) only [xsCk_in]
      rw [pu_go hkn (by omega), puI_clN (by omega), puI_clN (by omega), hf, hg, k1, k2, k3, k4, t1, xsBd_sm]
      simp only
      rw [t2, xsBd_sm, xsLt_eq, puI_s1]
      exact ⟨_, rfl, rfl, rfl, rfl⟩
    · rintro ⟨y1, y2, y3⟩ ⟨q1, q2, q3⟩
      simp only at q1 q2 q3
      subst q1; subst q2; subst q3
      simp only [fX4_wrap_L55]
      rw [pu_out (by omega)]
      exact ⟨_, rfl, rfl⟩
  obtain ⟨r, er, rfl⟩ := key
  exact er
/-- what HULL's row holds -/
def hu_r (n : Nat) (G : puG) (sz : Int32) (X Y : Nat → Int32) : Prop := (n = 0 ∧ sz = puI ((0 : Nat) : Int)) ∨ (0 < n ∧ ∃ p K, hu_l n G p ∧ K < 2 * n ∧ hu_p n G p (K + 1) = p ∧ (∀ j, j < K → hu_p n G p (j + 1) ≠ p) ∧ sz = puI ((K + 1 : Nat) : Int) ∧ ∀ j, j < K + 1 → X j = puI (hu_p n G p j).1 ∧ Y j = puI (hu_p n G p j).2)
theorem hu_r_u {n : Nat} {G : puG} {s1 s2 : Int32} {X1 Y1 X2 Y2 : Nat → Int32} (h1 : hu_r n G s1 X1 Y1) (h2 : hu_r n G s2 X2 Y2) (hn : n ≤ 24) : ∃ K : Nat, K ≤ 48 ∧ s1 = puI (K : Int) ∧ s2 = puI (K : Int) ∧ ∀ j, j < K → X1 j = X2 j ∧ Y1 j = Y2 j := by
  rcases h1 with ⟨z, e1⟩ | ⟨z, p, K, l, a, b, c, d, e⟩
  · rcases h2 with ⟨z2, e2⟩ | ⟨z2, -⟩
    · exact ⟨0, by omega, e1, e2, fun j hj => by omega⟩
    · omega
  · rcases h2 with ⟨z2, e2⟩ | ⟨z2, p', K', l', a', b', c', d', e'⟩
    · omega
    · have ep := hu_l_u l l'
      subst ep
      have eK : K = K' := by
        rcases Nat.lt_trichotomy K K' with q | q | q
        · exact absurd b (c' K q)
        · exact q
        · exact absurd b' (c K' q)
      subst eK
      exact ⟨K + 1, by omega, d, d', fun j hj => ⟨(e j hj).1.trans (e' j hj).1.symm, (e j hj).2.trans (e' j hj).2.symm⟩⟩
theorem p_wrap {n : Nat} {G : puG} {lx ly rx ry : Nat → Int32} (hv : puVal n G) (hk : puKW n G lx ly rx ry) {X Y : Nat → Int32} {sz x0 y0 : Int32} : puOk (fX4_wrap X Y sz x0 y0 lx ly rx ry (puI (n : Int))) (fun o => hu_r n G o.2.2.1 o.1 o.2.1) := by
  have hn := hv.1
  unfold fX4_wrap
  by_cases h0 : n = 0
  · rw [xsBr_pos (by rw [h0]; rfl)]
    exact puOk_some (Or.inl ⟨h0, rfl⟩)
  rw [xsBr_neg (by rw [show (0 : Int32) = puI ((0 : Nat) : Int) by rfl, puI_eqN (by omega) (by omega)]; exact h0)]
  obtain ⟨o, eo, p, hl, o1, o2⟩ := p_least hv hk (show 0 < n by omega) (x0 := x0) (y0 := y0)
  have al := hu_all hv hl
  have key : puOk (xsWh (fun s9 => fX4_wrap_L20 lx ly rx ry (puI (n : Int)) s9.1 s9.2.1 s9.2.2.1 s9.2.2.2.1 s9.2.2.2.2.1 s9.2.2.2.2.2) ((0 : Int32), X, Y, (0 : Int32), o.1, o.2)) (fun r => ∃ t, r = .inl t ∧ hu_r n G t.2.2.1 t.1 t.2.1) := by
    refine puFor (2 * n) (fun i z => z.1 = puI (i : Int) ∧ (∀ j, j < i → z.2.1 j = puI (hu_p n G p j).1 ∧ z.2.2.1 j = puI (hu_p n G p j).2) ∧ z.2.2.2.2.1 = puI (hu_p n G p i).1 ∧ z.2.2.2.2.2 = puI (hu_p n G p i).2 ∧ ∀ j, j < i → hu_p n G p (j + 1) ≠ p) _ ?_ ?_ 0 _ (Nat.zero_le _) ⟨rfl, fun j hj => by omega, o1, o2, fun j hj => by omega⟩
    · rintro i ⟨y3, y4, y5, y6, y7, y8⟩ hi ⟨q1, q2, q3, q4, q5⟩
      simp only at q1 q2 q3 q4
      subst q1; subst q3; subst q4
      obtain ⟨⟨j0, hj0, ej0⟩, -⟩ := al i
      have pin : hu_in (hu_p n G p i) := by rw [← ej0]; exact hu_e_bd hv hj0
      have w55 := p_wrap55 (lx := lx) (ly := ly) (rx := rx) (ry := ry) hv hk (show i < 48 by omega) pin (puUpd_eq y4 i (puI (hu_p n G p i).1)) (puUpd_eq y5 i (puI (hu_p n G p i).2))
      have ep : hu_b G (hu_p n G p i) (2 * n) = hu_p n G p (i + 1) := rfl
      rw [ep] at w55
      simp only [fX4_wrap_L20]
      rw [xsBr_neg (by rw [show (48 : Int32) = puI ((48 : Nat) : Int) by rfl, puI_leN (by omega) (by omega)]; omega), xsCk_in (by omega) (by omega) (by omega), xsLt_eq, xsCk_in (by omega) (by omega) (by omega), xsLt_eq, xsLt_eq, puI_clN (by omega), w55, xsBd_sm]
      have rows : ∀ j, j < i + 1 → upd y4 i (puI (hu_p n G p i).1) j = puI (hu_p n G p j).1 ∧ upd y5 i (puI (hu_p n G p i).2) j = puI (hu_p n G p j).2 := by
        intro j hj
        by_cases e : j = i
        · subst e; exact ⟨puUpd_eq _ _ _, puUpd_eq _ _ _⟩
        · rw [puUpd_ne e, puUpd_ne e]; exact q2 j (by omega)
      obtain ⟨r0, r1⟩ := rows 0 (by omega)
      obtain ⟨⟨j1, hj1, ej1⟩, -⟩ := al (i + 1)
      obtain ⟨⟨j2, hj2, ej2⟩, -⟩ := al 0
      have b1 := hu_e_bd hv hj1
      have b2 := hu_e_bd hv hj2
      rw [ej1] at b1
      rw [ej2] at b2
      have pe : hu_p n G p 0 = p := rfl
      rw [pe] at r0 r1 b2
      unfold hu_in at b1 b2
      have go : hu_p n G p (i + 1) ≠ p → ∀ j, j < i + 1 → hu_p n G p (j + 1) ≠ p := by
        intro h j hj
        by_cases e : j = i
        · subst e; exact h
        · exact q5 j (by omega)
      simp only [fX4_wrap_J125]
      rw [show (0 : Int32) = puI ((0 : Nat) : Int) by rfl, xsCk_in (by omega) (by omega) (by omega), xsCk_in (by omega) (by omega) (by omega), puI_clN (by omega), r0, r1, puI_s1]
      by_cases c : (hu_p n G p (i + 1)).1 = p.1
      · rw [xsBr_pos (by rw [c])]
        by_cases d : (hu_p n G p (i + 1)).2 = p.2
        · rw [xsBr_pos (by rw [d])]
          exact Or.inr ⟨_, rfl, _, rfl, Or.inr ⟨by omega, p, i, hl, hi, Prod.ext c d, q5, rfl, rows⟩⟩
        · rw [xsBr_neg (by rw [puI_eq (by omega) (by omega) (by omega) (by omega)]; exact d), xsLt_eq]
          exact Or.inl ⟨_, rfl, rfl, rows, rfl, rfl, go (fun q => d (by rw [q]))⟩
      · rw [xsBr_neg (by rw [puI_eq (by omega) (by omega) (by omega) (by omega)]; exact c), xsLt_eq]
        exact Or.inl ⟨_, rfl, rfl, rows, rfl, rfl, go (fun q => c (by rw [q]))⟩
    · rintro ⟨y3, y4, y5, y6, y7, y8⟩ ⟨q1, q2, q3, q4, q5⟩
      obtain ⟨i, hi, e⟩ := hu_back hv hl
      exact absurd e (q5 i hi)
  obtain ⟨r, er, t, rfl, ht⟩ := key
  rw [xsBd_some eo, xsBd_some er]
  exact puOk_some ht
theorem pu_2m (m : Nat) : (2 : Int32) * puI (m : Int) = puI ((2 * m : Nat) : Int) := by rw [show (2 : Int32) = puI 2 by rfl, puI_mul]; congr 1
/-- the row of all ends -/
def hu_E (n : Nat) (G : puG) (X Y : Nat → Int32) : Prop := ∀ j, j < 2 * n → X j = puI (hu_e G j).1 ∧ Y j = puI (hu_e G j).2
theorem p_laysEnds {n : Nat} {G : puG} {w : Nat → Int32} (hv : puVal n G) (hw : puMW n G w) {X Y : Nat → Int32} : puOk (fX11_laysEnds w X Y) (fun o => hu_E n G o.1 o.2) := by
  have hn := hv.1
  have key : puOk (xsWh (fun s4 => fX11_laysEnds_L2 w s4.1 s4.2.1 s4.2.2) ((0 : Int32), X, Y)) (fun o => hu_E n G o.1 o.2) := by
    refine puFor1 n (fun k z => z.1 = puI (k : Int) ∧ ∀ j, j < 2 * k → z.2.1 j = puI (hu_e G j).1 ∧ z.2.2 j = puI (hu_e G j).2) _ ⟨rfl, fun j hj => by omega⟩ ?_ ?_
    · rintro k ⟨y1, y2, y3⟩ hk ⟨q1, q2⟩
      simp only at q1 q2
      subst q1
      obtain ⟨h1, h2, h3, h4, -⟩ := hw.2 k hk
      obtain ⟨e1, e2⟩ := hu_ev (G := G) k
      simp only [fX11_laysEnds_L2]
      rw [p_many hw, xsBd_sm, pu_go hk (by omega), p_of0 (by omega), p_of1 (by omega), p_of2 (by omega), p_of3 (by omega), pu_2m, puI_s1]
      simp (disch := omega) only [xsBd_sm, xsCk_in, xsLt_eq, puI_clN]
      rw [h1, h2, h3, h4, puI_s1]
      refine ⟨_, rfl, rfl, fun j hj => ?_⟩
      dsimp only
      rcases (show j < 2 * k ∨ j = 2 * k ∨ j = 2 * k + 1 by omega) with q | q | q
      · rw [puUpd_ne (by omega), puUpd_ne (by omega), puUpd_ne (by omega), puUpd_ne (by omega)]; exact q2 j q
      · subst q
        rw [puUpd_ne (by omega), puUpd_eq, puUpd_ne (by omega), puUpd_eq, e1]; exact ⟨rfl, rfl⟩
      · subst q
        rw [puUpd_eq, puUpd_eq, e2]; exact ⟨rfl, rfl⟩
    · rintro ⟨y1, y2, y3⟩ ⟨q1, q2⟩
      simp only at q1 q2
      subst q1
      simp only [fX11_laysEnds_L2]
      rw [p_many hw, xsBd_sm, pu_out (by omega)]
      exact ⟨_, rfl, q2⟩
  obtain ⟨r, er, hr⟩ := key
  unfold fX11_laysEnds
  rw [xsBd_some er]
  exact puOk_some hr
theorem p_further {n : Nat} {G : puG} (hv : puVal n G) {X Y : Nat → Int32} (hE : hu_E n G X Y) {p : Int × Int} (hp : hu_in p) {b k : Nat} (hb : b < 2 * n) (hk : k < 2 * n) : fX11_isFurther X Y (puI p.1) (puI p.2) (puI (b : Int)) (puI (k : Int)) = some (puB (hu_c p (hu_e G b) (hu_e G k))) := by
  have hn := hv.1
  have bb := hu_e_bd hv hb
  have bk := hu_e_bd hv hk
  have xb := hu_x_bd hp bb bk
  have d1 := hu_d_bd hp bb
  have d2 := hu_d_bd hp bk
  obtain ⟨x1, y1⟩ := hE b hb
  obtain ⟨x2, y2⟩ := hE k hk
  unfold fX11_isFurther hu_c
  unfold hu_in at hp bb bk
  simp (disch := omega) only [xsCk_in, puI_clN, x1, y1, x2, y2, puI_sub, puI_l, puJ_mul, puJ_sub, xsLt_eq, pu_iabs, puI_add]
  rw [show ((hu_e G b).1 - p.1) * ((hu_e G k).2 - p.2) - ((hu_e G b).2 - p.2) * ((hu_e G k).1 - p.1) = hu_x p (hu_e G b) (hu_e G k) by rfl, show (((hu_e G k).1 - p.1).natAbs : Int) + (((hu_e G k).2 - p.2).natAbs : Int) = hu_d p (hu_e G k) by rfl, show (((hu_e G b).1 - p.1).natAbs : Int) + (((hu_e G b).2 - p.2).natAbs : Int) = hu_d p (hu_e G b) by rfl, show (0 : Int64) = puJ 0 by rfl]
  by_cases c : hu_x p (hu_e G b) (hu_e G k) = 0
  · rw [xsBr_pos (by rw [c])]
    by_cases d : hu_d p (hu_e G k) ≤ hu_d p (hu_e G b)
    · rw [xsBr_pos ((puI_le (by omega) (by omega) (by omega) (by omega)).mpr d), puB_neg (by omega)]
    · rw [xsBr_neg (fun q => d ((puI_le (by omega) (by omega) (by omega) (by omega)).mp q)), puB_pos (by omega)]
  · rw [xsBr_neg (by rw [puJ_eq (by omega) (by omega) (by omega) (by omega)]; exact c)]
    by_cases d : 0 ≤ hu_x p (hu_e G b) (hu_e G k)
    · rw [xsBr_pos ((puJ_le (by omega) (by omega) (by omega) (by omega)).mpr d), puB_neg (by omega)]
    · rw [xsBr_neg (fun q => d ((puJ_le (by omega) (by omega) (by omega) (by omega)).mp q)), puB_pos (by omega)]
theorem p_laysH17 {n : Nat} {G : puG} {w : Nat → Int32} (hv : puVal n G) (hw : puMW n G w) (h0 : 0 < n) {o1 : (Nat → Int32) × (Nat → Int32)} (hE : hu_E n G o1.1 o1.2) : puOk (xsWh (fun s7 => fX11_laysHull_L17 w o1 s7.1 s7.2) ((0 : Int32), (1 : Int32))) (fun r => ∃ l : Nat, l < 2 * n ∧ r = puI (l : Int) ∧ hu_l n G (hu_e G l)) := by
  have hn := hv.1
  refine puFor (2 * n) (fun k z => z.2 = puI (k : Int) ∧ ∃ l : Nat, l < k ∧ z.1 = puI (l : Int) ∧ ∀ j, j < k → ¬ puLi (hu_e G j) (hu_e G l)) _ ?_ ?_ 1 _ (by omega) ⟨rfl, 0, by omega, rfl, fun j hj => ?_⟩
  · rintro k ⟨y5, y6⟩ hk ⟨q1, l, hl, q2, q3⟩
    simp only at q1 q2
    subst q1; subst q2
    have bk := hu_e_bd hv hk
    have bl := hu_e_bd hv (show l < 2 * n by omega)
    obtain ⟨x1, y1⟩ := hE k hk
    obtain ⟨x2, y2⟩ := hE l (by omega)
    unfold hu_in at bk bl
    simp only [fX11_laysHull_L17]
    simp (disch := omega) only [xsCk_in]
    rw [p_many hw, xsBd_sm, pu_2m, pu_go hk (by omega), puI_clN (by omega), puI_clN (by omega), x1, y1, x2, y2, p_isAhead (by omega) (by omega) (by omega) (by omega), xsBd_sm]
    by_cases c : puLi (hu_e G k) (hu_e G l)
    · rw [pu_bt c, xsBd_sm]
      simp only [fX11_laysHull_J59]
      rw [xsLt_eq, puI_s1]
      refine Or.inl ⟨_, rfl, rfl, k, by omega, rfl, fun j hj => ?_⟩
      by_cases e : j = k
      · subst e; unfold puLi; omega
      · have := q3 j (by omega)
        unfold puLi at *
        omega
    · rw [pu_bf c, xsBd_sm]
      simp only [fX11_laysHull_J59]
      rw [xsLt_eq, puI_s1]
      refine Or.inl ⟨_, rfl, rfl, l, by omega, rfl, fun j hj => ?_⟩
      by_cases e : j = k
      · subst e; exact c
      · exact q3 j (by omega)
  · rintro ⟨y5, y6⟩ ⟨q1, l, hl, q2, q3⟩
    simp only at q1 q2
    subst q1; subst q2
    simp only [fX11_laysHull_L17]
    rw [p_many hw, xsBd_sm, pu_2m, pu_out (by omega)]
    exact ⟨_, rfl, l, hl, rfl, ⟨l, hl, rfl⟩, q3⟩
  · obtain rfl : j = 0 := by omega
    unfold puLi; omega
theorem p_laysH102 {n : Nat} {G : puG} {w : Nat → Int32} (hv : puVal n G) (hw : puMW n G w) {o1 : (Nat → Int32) × (Nat → Int32)} (hE : hu_E n G o1.1 o1.2) {a : Nat} (ha : a < 2 * n) : puOk (xsWh (fun s23 => fX11_laysHull_L102 w o1 (puI (a : Int)) s23.1 s23.2) ((-1 : Int32), (0 : Int32))) (fun r => (r = puI (-1) ∧ hu_b G (hu_e G a) (2 * n) = hu_e G a) ∨ ∃ b : Nat, b < 2 * n ∧ r = puI (b : Int) ∧ hu_e G b = hu_b G (hu_e G a) (2 * n)) := by
  have hn := hv.1
  have ba := hu_e_bd hv ha
  obtain ⟨xa, ya⟩ := hE a ha
  refine puOk_mono (P := fun r => (r = puI (-1) ∧ hu_b G (hu_e G a) (2 * n) = hu_e G a) ∨ ∃ b : Nat, b < 2 * n ∧ r = puI (b : Int) ∧ hu_e G b = hu_b G (hu_e G a) (2 * n) ∧ hu_e G b ≠ hu_e G a) ?_ (fun r h => h.imp id (fun ⟨b, b1, b2, b3, _⟩ => ⟨b, b1, b2, b3⟩))
  refine puFor1 (2 * n) (fun k z => z.2 = puI (k : Int) ∧ ((z.1 = puI (-1) ∧ hu_b G (hu_e G a) k = hu_e G a) ∨ ∃ b : Nat, b < k ∧ z.1 = puI (b : Int) ∧ hu_e G b = hu_b G (hu_e G a) k ∧ hu_e G b ≠ hu_e G a)) _ ⟨rfl, Or.inl ⟨rfl, rfl⟩⟩ ?_ ?_
  · rintro k ⟨y21, y22⟩ hk ⟨q1, q2⟩
    simp only at q1 q2
    subst q1
    have bk := hu_e_bd hv hk
    obtain ⟨xk, yk⟩ := hE k hk
    have es : hu_b G (hu_e G a) (k + 1) = hu_s (hu_e G a) (hu_b G (hu_e G a) k) (hu_e G k) := rfl
    have same : hu_e G k = hu_e G a → ∃ s', fX11_laysHull_J181 (puI (k : Int)) y21 = some (.inl s') ∧ s'.2 = puI ((k + 1 : Nat) : Int) ∧ ((s'.1 = puI (-1) ∧ hu_b G (hu_e G a) (k + 1) = hu_e G a) ∨ ∃ b : Nat, b < k + 1 ∧ s'.1 = puI (b : Int) ∧ hu_e G b = hu_b G (hu_e G a) (k + 1) ∧ hu_e G b ≠ hu_e G a) := by
      intro e
      have nc : ¬ hu_c (hu_e G a) (hu_b G (hu_e G a) k) (hu_e G k) := by
        rw [e]
        rintro (c | ⟨-, c⟩)
        · rw [hu_xz2] at c; omega
        · rw [hu_dz] at c; have := hu_dp (hu_e G a) (hu_b G (hu_e G a) k); omega
      have e2 : hu_b G (hu_e G a) (k + 1) = hu_b G (hu_e G a) k := by rw [es]; exact puE_neg nc
      simp only [fX11_laysHull_J181]
      rw [xsLt_eq, puI_s1, e2]
      refine ⟨_, rfl, rfl, ?_⟩
      rcases q2 with q2 | ⟨b, b1, b2, b3, b4⟩
      · exact Or.inl q2
      · exact Or.inr ⟨b, by omega, b2, b3, b4⟩
    have diff : hu_e G k ≠ hu_e G a → ∃ v, fX11_laysHull_J148 o1 (puI (a : Int)) y21 (puI (k : Int)) = some v ∧ ∃ s', fX11_laysHull_J181 (puI (k : Int)) v = some (.inl s') ∧ s'.2 = puI ((k + 1 : Nat) : Int) ∧ ((s'.1 = puI (-1) ∧ hu_b G (hu_e G a) (k + 1) = hu_e G a) ∨ ∃ b : Nat, b < k + 1 ∧ s'.1 = puI (b : Int) ∧ hu_e G b = hu_b G (hu_e G a) (k + 1) ∧ hu_e G b ≠ hu_e G a) := by
      intro e
      unfold fX11_laysHull_J148
      rw [show (-1 : Int32) = puI (-1) by rfl]
      rcases q2 with ⟨q2, q3⟩ | ⟨b, b1, b2, b3, b4⟩
      · rw [xsBr_pos q2]
        refine ⟨_, rfl, ?_⟩
        have yc : hu_c (hu_e G a) (hu_b G (hu_e G a) k) (hu_e G k) := by
          rw [q3]
          refine Or.inr ⟨hu_xz1 _ _, ?_⟩
          rw [hu_dz]
          rcases Int.lt_or_le 0 (hu_d (hu_e G a) (hu_e G k)) with z | z
          · exact z
          · exact absurd (hu_d0 z) e
        have e2 : hu_b G (hu_e G a) (k + 1) = hu_e G k := by rw [es]; exact puE_pos yc
        simp only [fX11_laysHull_J181]
        rw [xsLt_eq, puI_s1, e2]
        exact ⟨_, rfl, rfl, Or.inr ⟨k, by omega, rfl, rfl, e⟩⟩
      · rw [xsBr_neg (by rw [b2, puI_eq (by omega) (by omega) (by omega) (by omega)]; omega), xsCk_in (by omega) (by omega) (by omega), xsCk_in (by omega) (by omega) (by omega), puI_clN (by omega), xa, ya, b2, p_further hv hE ba (by omega) hk, xsBd_sm, b3]
        by_cases c : hu_c (hu_e G a) (hu_b G (hu_e G a) k) (hu_e G k)
        · have e2 : hu_b G (hu_e G a) (k + 1) = hu_e G k := by rw [es]; exact puE_pos c
          rw [pu_bt c]
          refine ⟨_, rfl, ?_⟩
          simp only [fX11_laysHull_J181]
          rw [xsLt_eq, puI_s1, e2]
          exact ⟨_, rfl, rfl, Or.inr ⟨k, by omega, rfl, rfl, e⟩⟩
        · have e2 : hu_b G (hu_e G a) (k + 1) = hu_b G (hu_e G a) k := by rw [es]; exact puE_neg c
          rw [pu_bf c]
          refine ⟨_, rfl, ?_⟩
          simp only [fX11_laysHull_J181]
          rw [xsLt_eq, puI_s1, e2]
          exact ⟨_, rfl, rfl, Or.inr ⟨b, by omega, rfl, b3, b4⟩⟩
    unfold hu_in at ba bk
    simp only [fX11_laysHull_L102]
    rw [p_many hw, xsBd_sm, pu_2m, pu_go hk (by omega)]
    simp (disch := omega) only [xsCk_in]
    rw [puI_clN (by omega), puI_clN (by omega), xk, yk, xa, ya]
    by_cases c : (hu_e G k).1 = (hu_e G a).1
    · rw [xsBr_pos (by rw [c])]
      by_cases d : (hu_e G k).2 = (hu_e G a).2
      · rw [xsBr_pos (by rw [d]), xsBd_sm]
        exact same (Prod.ext c d)
      · obtain ⟨v, ev, h⟩ := diff (fun q => d (by rw [q]))
        rw [xsBr_neg (by rw [puI_eq (by omega) (by omega) (by omega) (by omega)]; exact d), ev, xsBd_sm]
        exact h
    · obtain ⟨v, ev, h⟩ := diff (fun q => c (by rw [q]))
      rw [xsBr_neg (by rw [puI_eq (by omega) (by omega) (by omega) (by omega)]; exact c), ev, xsBd_sm]
      exact h
  · rintro ⟨y21, y22⟩ ⟨q1, q2⟩
    simp only at q1 q2
    subst q1
    simp only [fX11_laysHull_L102]
    rw [p_many hw, xsBd_sm, pu_2m, pu_out (by omega)]
    exact ⟨_, rfl, q2⟩
theorem p_laysHull {n : Nat} {G : puG} {w : Nat → Int32} (hv : puVal n G) (hw : puMW n G w) {X Y eX eY : Nat → Int32} : puOk (fX11_laysHull w X Y eX eY) (fun o => hu_r n G o.1 o.2.1 o.2.2.1) := by
  have hn := hv.1
  obtain ⟨o1, eo1, hE⟩ := p_laysEnds hv hw (X := eX) (Y := eY)
  unfold fX11_laysHull
  rw [xsBd_some eo1, p_many hw, xsBd_sm]
  by_cases h0 : n = 0
  · rw [xsBr_pos (by rw [h0]; rfl)]
    exact puOk_some (Or.inl ⟨h0, rfl⟩)
  rw [xsBr_neg (by rw [show (0 : Int32) = puI ((0 : Nat) : Int) by rfl, puI_eqN (by omega) (by omega)]; exact h0)]
  obtain ⟨r, er, l, hl, rfl, hL⟩ := p_laysH17 hv hw (by omega) hE
  have al := hu_all hv hL
  have bl := hu_e_bd hv hl
  obtain ⟨xl, yl⟩ := hE l hl
  rw [xsBd_some er]
  unfold fX11_laysHull_J65
  refine puFor (2 * n) (fun i z => z.1 = puI (i : Int) ∧ (∃ a : Nat, a < 2 * n ∧ z.2.1 = puI (a : Int) ∧ hu_e G a = hu_p n G (hu_e G l) i) ∧ (∀ j, j < i → z.2.2.1 j = puI (hu_p n G (hu_e G l) j).1 ∧ z.2.2.2 j = puI (hu_p n G (hu_e G l) j).2) ∧ ∀ j, j < i → hu_p n G (hu_e G l) (j + 1) ≠ hu_e G l) _ ?_ ?_ 0 _ (Nat.zero_le _) ⟨rfl, ⟨l, hl, rfl, rfl⟩, fun j hj => by omega, fun j hj => by omega⟩
  · rintro i ⟨y9, y10, y11, y12⟩ hi ⟨q1, ⟨a, ha, q2, q3⟩, q4, q5⟩
    simp only at q1 q2 q4
    subst q1; subst q2
    obtain ⟨xa, ya⟩ := hE a ha
    obtain ⟨r2, er2, hr2⟩ := p_laysH102 hv hw hE ha
    have ep : hu_b G (hu_e G a) (2 * n) = hu_p n G (hu_e G l) (i + 1) := by rw [q3]; rfl
    rw [ep] at hr2
    have rows : ∀ j, j < i + 1 → upd y11 i (puI (hu_e G a).1) j = puI (hu_p n G (hu_e G l) j).1 ∧ upd y12 i (puI (hu_e G a).2) j = puI (hu_p n G (hu_e G l) j).2 := by
      intro j hj
      by_cases e : j = i
      · subst e; rw [puUpd_eq, puUpd_eq, q3]; exact ⟨rfl, rfl⟩
      · rw [puUpd_ne e, puUpd_ne e]; exact q4 j (by omega)
    have stop : hu_p n G (hu_e G l) (i + 1) = hu_e G l → hu_r n G (puI ((i + 1 : Nat) : Int)) (upd y11 i (puI (hu_e G a).1)) (upd y12 i (puI (hu_e G a).2)) := fun e => Or.inr ⟨by omega, hu_e G l, i, hL, hi, e, q5, rfl, rows⟩
    simp only [fX11_laysHull_L69]
    simp (disch := omega) only [xsCk_in]
    rw [xsLt_eq, xsLt_eq, xsLt_eq, puI_clN (by omega), puI_clN (by omega), xa, ya, puI_s1, xsBd_some er2]
    unfold fX11_laysHull_J187
    rw [show (-1 : Int32) = puI (-1) by rfl]
    rcases hr2 with ⟨rfl, h2⟩ | ⟨b, hb, rfl, h2⟩
    · rw [xsBr_pos rfl]
      refine Or.inr ⟨_, rfl, stop ?_⟩
      rw [h2]
      obtain ⟨-, u, v, hu⟩ := al i
      rw [← q3] at hu
      obtain ⟨-, hg⟩ := hu_scan hu (2 * n) (Nat.le_refl _)
      have g := (hg l hl).2
      rw [ep, h2, hu_xz1, hu_dz] at g
      exact (hu_d0 (g rfl)).symm
    · have bb := hu_e_bd hv hb
      obtain ⟨xb, yb⟩ := hE b hb
      unfold hu_in at bb bl
      rw [xsBr_neg (by rw [puI_eq (by omega) (by omega) (by omega) (by omega)]; omega)]
      simp (disch := omega) only [xsCk_in]
      rw [puI_clN (by omega), puI_clN (by omega), xb, yb, xl, yl]
      have go : hu_e G b ≠ hu_e G l → ∀ j, j < i + 1 → hu_p n G (hu_e G l) (j + 1) ≠ hu_e G l := by
        intro h j hj
        by_cases e : j = i
        · subst e; rw [← h2]; exact h
        · exact q5 j (by omega)
      by_cases c : (hu_e G b).1 = (hu_e G l).1
      · rw [xsBr_pos (by rw [c])]
        by_cases d : (hu_e G b).2 = (hu_e G l).2
        · rw [xsBr_pos (by rw [d])]
          exact Or.inr ⟨_, rfl, stop (h2.symm.trans (Prod.ext c d))⟩
        · rw [xsBr_neg (by rw [puI_eq (by omega) (by omega) (by omega) (by omega)]; exact d)]
          exact Or.inl ⟨_, rfl, rfl, ⟨b, hb, rfl, h2⟩, rows, go (fun q => d (by rw [q]))⟩
      · rw [xsBr_neg (by rw [puI_eq (by omega) (by omega) (by omega) (by omega)]; exact c)]
        exact Or.inl ⟨_, rfl, rfl, ⟨b, hb, rfl, h2⟩, rows, go (fun q => c (by rw [q]))⟩
  · rintro ⟨y9, y10, y11, y12⟩ ⟨q1, q2, q4, q5⟩
    obtain ⟨i, hi, e⟩ := hu_back hv hL
    exact absurd e (q5 i hi)
theorem q_hull : pc_hull puRl := by
  intro kIsKept kIsStale hiLatest hiSize scLength scFault scAt scNumber piSegmentsNow enKind enFromX enFromY enToX enToY tiMeetingPairs tiAlongPairs tiSize evSize evCrossings evSegmentsNow grEdges grQueued huSize huBestX huBestY scBytes scTold tiTouching tiLyingAlong evBundle evCrossingOf evEventOf evLeftEvent evRightEvent grDegree grFar grQueue huX huY enX enY enLower evX evY evLower S mThrown mRemembered mHasImage mIsLaid mEvents mCrossings mEdges mTaped mPoint mEnd mBegin mFaultAt mActs mWorld mImage mDraft mEarlier mOne mTwo mShare mCrossingOf mBundle mEventOf mDegree mFrom mTo mMet mTape mFive mTold mFar mViews mHullX mHullY mEndX mEndY mMeets mMeetsOf mX mY mD mHeightUp mHeightLow mEventX mEventY mEventD mUpper mLower hR a0 a1 hB
  obtain ⟨n, G, rw, ri, rh, rt, rk, rm⟩ := hR
  obtain ⟨k, rfl, k1, k2⟩ := puI_ex a0
  obtain ⟨w1, w2, w3⟩ := id rw
  have hn := w1.1
  obtain ⟨o, eo, ho⟩ := p_wrap w1 w2.1 (X := huX) (Y := huY) (sz := huSize) (x0 := huBestX) (y0 := huBestY)
  obtain ⟨v, ev, hv⟩ := p_laysHull w1 w3 (X := mHullX) (Y := mHullY) (eX := mEndX) (eY := mEndY)
  obtain ⟨K, hK, z1, z2, hr⟩ := hu_r_u ho hv hn
  have pcn := p_checkPlace (k := k) (m := K) k1 k2 (by omega)
  rw [← z1] at pcn
  unfold fX10_hull fX11_hull
  rw [w2.2.2, xsBd_some eo, xsBd_some ev, pcn, xsBd_sm, z2, show (1 : Int32) = puI 1 by rfl, puI_sub, puI_l k1 k2, puI_l (by omega) (by omega), show (0 : Int64) = puJ 0 by rfl, p_in (by omega) (by omega) (by omega), xsBd_sm, show puI 1 = (1 : Int32) by rfl]
  simp only [puB_0, xsBr_10, xsBd_sm]
  unfold fX11_hull_J27
  rw [p_throwsIf, xsBd_sm]
  by_cases c : 0 ≤ k ∧ k < (K : Int)
  case neg =>
    have c' : ¬ (0 ≤ k ∧ k ≤ (K : Int) - 1) := by omega
    rw [puCk_neg c, puB_pos c', puE_pos c']
    simp only [xsTh]
    rw [xsBr_neg (by decide)]
    exact ⟨_, _, rfl, rfl, Or.inr ⟨_, _, rfl, rfl, rfl, n, G, rw, ri, rh, rt, rk, rm⟩⟩
  have c' : ¬ ¬ (0 ≤ k ∧ k ≤ (K : Int) - 1) := by omega
  rw [puCk_pos c, puB_neg c', puE_neg c']
  simp only [xsTh]
  rw [xsBr_T]
  obtain ⟨e, rfl, he⟩ : ∃ e : Nat, k = (e : Int) ∧ e < K := ⟨k.toNat, by omega, by omega⟩
  obtain ⟨hx, hy⟩ := hr e he
  simp (disch := omega) only [xsCk_in]
  rw [puI_clN (by omega), hx, hy]
  rcases hB with rfl | rfl
  · rw [xsBr_pos rfl, xsBr_pos rfl]
    exact ⟨_, _, rfl, rfl, Or.inl ⟨_, rfl, rfl, rfl, n, G, rw, ri, rh, rt, rk, rm⟩⟩
  · rw [xsBr_neg (by decide), xsBr_neg (by decide)]
    exact ⟨_, _, rfl, rfl, Or.inl ⟨_, rfl, rfl, rfl, n, G, rw, ri, rh, rt, rk, rm⟩⟩

