/-! PURE: SIGHT -/
noncomputable def si_a (r : Rat) : Rat := puE (0 ≤ r) r (-r)
theorem si_abs {z D : Int} {r : Rat} (hD : 0 < D) (e : (z : Rat) = r * (D : Rat)) : ((z.natAbs : Int) : Rat) = si_a r * (D : Rat) := by
  have d : 0 < (D : Rat) := Rat.intCast_pos.mpr hD
  unfold si_a
  by_cases c : 0 ≤ r
  · rw [puE_pos c]
    have h := Rat.mul_nonneg c (show 0 ≤ (D : Rat) by grind)
    have h2 : 0 ≤ z := by
      rw [← e] at h
      exact Rat.intCast_nonneg.mp h
    rw [show (z.natAbs : Int) = z by omega]; exact e
  · rw [puE_neg c]
    have h := Rat.mul_pos (a := -r) (by grind) d
    have h2 : z < 0 := by
      apply pg_neg.mp
      rw [e]; grind
    rw [show (z.natAbs : Int) = -z by omega, Rat.intCast_neg, e]; grind
noncomputable def si_K (s : Int × Int) (p : puP) : Rat := si_a (p.1 - (s.1 : Rat)) + si_a (p.2 - (s.2 : Rat))
noncomputable def si_M (s o : Int × Int) (p : puP) : Rat := puE (s.1 = o.1) (si_a (p.2 - (s.2 : Rat))) (si_a (p.1 - (s.1 : Rat)))
/-- on the way from one point to another one -/
def si_on (s o : Int × Int) (p : puP) : Prop := ∃ t : Rat, 0 ≤ t ∧ p.1 = (s.1 : Rat) + t * ((o.1 : Rat) - (s.1 : Rat)) ∧ p.2 = (s.2 : Rat) + t * ((o.2 : Rat) - (s.2 : Rat))
theorem si_at {t r : Rat} (h : 0 ≤ t) : si_a (t * r) = t * si_a r := by
  unfold si_a
  by_cases c : 0 ≤ r
  · rw [puE_pos c, puE_pos (Rat.mul_nonneg h c)]
  · rw [puE_neg c]
    by_cases z : t = 0
    · subst z
      rw [Rat.zero_mul, Rat.zero_mul, puE_pos (by grind)]
    · have := Rat.mul_pos (a := t) (b := -r) (by grind) (by grind)
      rw [puE_neg (by grind)]; grind
theorem si_a0 (r : Rat) : 0 ≤ si_a r := by
  unfold si_a
  by_cases c : 0 ≤ r
  · rw [puE_pos c]; exact c
  · rw [puE_neg c]; grind
theorem si_az {r : Rat} (h : si_a r = 0) : r = 0 := by
  unfold si_a at h
  by_cases c : 0 ≤ r
  · rw [puE_pos c] at h; exact h
  · rw [puE_neg c] at h; grind
theorem si_ml {t u c : Rat} (hc : 0 < c) : t * c < u * c ↔ t < u := by
  constructor
  · intro h
    apply Classical.byContradiction
    intro q
    have := Rat.mul_nonneg (a := t - u) (b := c) (by grind) (by grind)
    grind
  · intro h
    have := Rat.mul_pos (a := u - t) (b := c) (by grind) hc
    grind
theorem si_cmp {s o : Int × Int} {p q : puP} (hp : si_on s o p) (hq : si_on s o q) : si_K s p < si_K s q ↔ si_M s o p < si_M s o q := by
  obtain ⟨t, t0, t1, t2⟩ := hp
  obtain ⟨u, u0, u1, u2⟩ := hq
  have e1 : p.1 - (s.1 : Rat) = t * ((o.1 : Rat) - (s.1 : Rat)) := by grind
  have e2 : p.2 - (s.2 : Rat) = t * ((o.2 : Rat) - (s.2 : Rat)) := by grind
  have e3 : q.1 - (s.1 : Rat) = u * ((o.1 : Rat) - (s.1 : Rat)) := by grind
  have e4 : q.2 - (s.2 : Rat) = u * ((o.2 : Rat) - (s.2 : Rat)) := by grind
  unfold si_K si_M
  rw [e1, e2, e3, e4, si_at t0, si_at t0, si_at u0, si_at u0, show t * si_a ((o.1 : Rat) - (s.1 : Rat)) + t * si_a ((o.2 : Rat) - (s.2 : Rat)) = t * (si_a ((o.1 : Rat) - (s.1 : Rat)) + si_a ((o.2 : Rat) - (s.2 : Rat))) by grind, show u * si_a ((o.1 : Rat) - (s.1 : Rat)) + u * si_a ((o.2 : Rat) - (s.2 : Rat)) = u * (si_a ((o.1 : Rat) - (s.1 : Rat)) + si_a ((o.2 : Rat) - (s.2 : Rat))) by grind]
  have n1 := si_a0 ((o.1 : Rat) - (s.1 : Rat))
  have n2 := si_a0 ((o.2 : Rat) - (s.2 : Rat))
  by_cases c : s.1 = o.1
  · rw [puE_pos c, puE_pos c]
    have z1 : si_a ((o.1 : Rat) - (s.1 : Rat)) = 0 := by
      rw [c, show (o.1 : Rat) - (o.1 : Rat) = 0 by grind]
      exact puE_pos (by grind)
    rw [z1, Rat.zero_add]
  · rw [puE_neg c, puE_neg c]
    have nz : si_a ((o.1 : Rat) - (s.1 : Rat)) ≠ 0 := by
      intro h
      have h2 := si_az h
      have h3 : (o.1 : Rat) = (s.1 : Rat) := by grind
      exact c (Rat.intCast_inj.mp h3).symm
    rw [si_ml (by grind), si_ml (by grind)]
/-- the stretch looked along -/
theorem ch_oE {s o : Int × Int} (hs : hu_in s) (ho : hu_in o) : puV (ch_o s.1 s.2 o.1 o.2 0) ∧ ((puAi (ch_o s.1 s.2 o.1 o.2 0) = s ∧ puZi (ch_o s.1 s.2 o.1 o.2 0) = o) ∨ (puAi (ch_o s.1 s.2 o.1 o.2 0) = o ∧ puZi (ch_o s.1 s.2 o.1 o.2 0) = s)) := by
  refine ⟨ch_oV hs.1 hs.2 ho.1 ho.2 (by omega), ?_⟩
  unfold ch_o
  by_cases c : s.1 < o.1 ∨ (s.1 = o.1 ∧ s.2 ≤ o.2)
  · rw [puE_pos c]; exact Or.inl ⟨rfl, rfl⟩
  · rw [puE_neg c]; exact Or.inr ⟨rfl, rfl⟩
theorem si_onO {s o : Int × Int} (hs : hu_in s) (ho : hu_in o) {p : puP} (h : puOn (ch_o s.1 s.2 o.1 o.2 0) p) : si_on s o p := by
  obtain ⟨v, e⟩ := ch_oE hs ho
  obtain ⟨t, t0, t1, p1, p2⟩ := (puOn_t v).mp h
  generalize ch_o s.1 s.2 o.1 o.2 0 = q at *
  have eW : (puW q : Rat) = (q.2.2.1 : Rat) - (q.1 : Rat) := by unfold puW; rw [Rat.intCast_sub]
  have eH : (puH q : Rat) = (q.2.2.2.1 : Rat) - (q.2.1 : Rat) := by unfold puH; rw [Rat.intCast_sub]
  rw [eW] at p1
  rw [eH] at p2
  unfold puAi puZi at e
  rcases e with ⟨rfl, rfl⟩ | ⟨rfl, rfl⟩
  · exact ⟨t, t0, p1, p2⟩
  · refine ⟨1 - t, by grind, ?_, ?_⟩
    · simp only; grind
    · simp only; grind
/-- the point that counts -/
noncomputable def si_p (q q0 : puS) (s : Int × Int) : puP := puE (puKd q q0 = 1) (puMp q q0) (puE (hu_d s (puFr q q0) < hu_d s (puTo q q0)) (puC (puFr q q0)) (puC (puTo q q0)))
theorem si_pO {q q0 : puS} (v : puV q) (v0 : puV q0) {s : Int × Int} (h : puKd q q0 ≠ 0) : puOn q0 (si_p q q0 s) := by
  have kl := puKd_le q q0
  unfold si_p
  by_cases c : puKd q q0 = 1
  · rw [puE_pos c]; exact (puKd_1 v v0 c).2.1
  · rw [puE_neg c]
    obtain ⟨d0, il, li, -⟩ := puKd_2 v v0 (by omega)
    obtain ⟨⟨-, a1⟩, -, a2⟩ := puAlong v v0 d0 il (puLe_of (puLi_c.mp li))
    by_cases d : hu_d s (puFr q q0) < hu_d s (puTo q q0)
    · rw [puE_pos d]; exact a1
    · rw [puE_neg d]; exact a2
theorem si_KC (s e : Int × Int) : ((hu_d s e : Int) : Rat) = si_K s (puC e) := by
  have h1 := si_abs (z := e.1 - s.1) (D := 1) (r := (e.1 : Rat) - (s.1 : Rat)) (by omega) (by rw [Rat.intCast_sub, show ((1 : Int) : Rat) = 1 by rfl]; grind)
  have h2 := si_abs (z := e.2 - s.2) (D := 1) (r := (e.2 : Rat) - (s.2 : Rat)) (by omega) (by rw [Rat.intCast_sub, show ((1 : Int) : Rat) = 1 by rfl]; grind)
  rw [show ((1 : Int) : Rat) = 1 by rfl, Rat.mul_one] at h1 h2
  unfold hu_d si_K puC
  rw [Rat.intCast_add, h1, h2]
/-- who is seen, so far -/
def si_c (G : puG) (q0 : puS) (s : Int × Int) (m : Nat) (b : Int) : Prop := puKd (G m) q0 ≠ 0 ∧ (b = -1 ∨ si_K s (si_p (G m) q0 s) < si_K s (si_p (G b.toNat) q0 s))
noncomputable def si_b (G : puG) (q0 : puS) (s : Int × Int) : Nat → Int
  | 0 => -1
  | m + 1 => puE (si_c G q0 s m (si_b G q0 s m)) (m : Int) (si_b G q0 s m)
theorem si_bd (G : puG) (q0 : puS) (s : Int × Int) : ∀ m, (si_b G q0 s m = -1 ∨ ∃ k : Nat, k < m ∧ si_b G q0 s m = (k : Int) ∧ puKd (G k) q0 ≠ 0)
  | 0 => Or.inl rfl
  | m + 1 => by
    have ih := si_bd G q0 s m
    unfold si_b
    by_cases c : si_c G q0 s m (si_b G q0 s m)
    · rw [puE_pos c]; exact Or.inr ⟨m, by omega, rfl, c.1⟩
    · rw [puE_neg c]
      rcases ih with ih | ⟨k, h1, h2, h3⟩
      · exact Or.inl ih
      · exact Or.inr ⟨k, by omega, h2, h3⟩
theorem si_y {G : puG} {q0 : puS} {s : Int × Int} {m : Nat} (c : si_c G q0 s m (si_b G q0 s m)) : si_b G q0 s (m + 1) = (m : Int) := puE_pos c
theorem si_n {G : puG} {q0 : puS} {s : Int × Int} {m : Nat} (c : ¬ si_c G q0 s m (si_b G q0 s m)) : si_b G q0 s (m + 1) = si_b G q0 s m := puE_neg c
/-- the way, in its parts -/
theorem p_way {q q0 : puS} (v : puV q) (v0 : puV q0) {s : Int × Int} (hs : hu_in s) (h : puKd q q0 ≠ 0) {o : Int32 × Int64 × Int64 × Int64 × Int32 × Int32 × Int32 × Int32} (ho : puSd q q0 o) : ∃ U L : Int, fX0_wayFrom o.1 o.2.1 o.2.2.1 o.2.2.2.1 o.2.2.2.2.1 o.2.2.2.2.2.1 o.2.2.2.2.2.2.1 o.2.2.2.2.2.2.2 (puI s.1) (puI s.2) = some (puJ U) ∧ o.2.2.2.1 = puJ L ∧ (0 < L ∧ L ≤ 7984008) ∧ (0 ≤ U ∧ U ≤ 40000000000) ∧ (U : Rat) = si_K s (si_p q q0 s) * (L : Rat) := by
  have kl := puKd_le q q0
  obtain ⟨k0, k1, k2, k3⟩ := ho
  obtain ⟨hs1, hs2⟩ := hs
  unfold fX0_wayFrom
  by_cases c : puKd q q0 = 1
  · obtain ⟨X, Y, D, e1, e2, e3, hD, ⟨r1, r2⟩, bX, bY⟩ := k1 c
    have m1 := pu_mb (v := s.1) (w := D) 999 7984008 (by omega) (by omega) (by omega) (by omega)
    have m2 := pu_mb (v := s.2) (w := D) 999 7984008 (by omega) (by omega) (by omega) (by omega)
    rw [xsBr_pos (by rw [k0, c]; rfl), e1, e2, e3, puI_l (by omega) (by omega), puI_l (by omega) (by omega), puJ_mul, puJ_mul, puJ_sub, puJ_sub]
    have l1 : (if (0 : Int64) < puJ (X - s.1 * D) then puJ (X - s.1 * D) else -puJ (X - s.1 * D)) = puJ ((X - s.1 * D).natAbs : Int) := by
      rw [show (0 : Int64) = puJ 0 by rfl]
      by_cases c : 0 < X - s.1 * D
      · rw [if_pos ((puJ_lt (by omega) (by omega) (by omega) (by omega)).mpr c)]; congr 1; omega
      · rw [if_neg (fun q => c ((puJ_lt (by omega) (by omega) (by omega) (by omega)).mp q)), puJ_neg]; congr 1; omega
    have l2 : (if (0 : Int64) < puJ (Y - s.2 * D) then puJ (Y - s.2 * D) else -puJ (Y - s.2 * D)) = puJ ((Y - s.2 * D).natAbs : Int) := by
      rw [show (0 : Int64) = puJ 0 by rfl]
      by_cases c : 0 < Y - s.2 * D
      · rw [if_pos ((puJ_lt (by omega) (by omega) (by omega) (by omega)).mpr c)]; congr 1; omega
      · rw [if_neg (fun q => c ((puJ_lt (by omega) (by omega) (by omega) (by omega)).mp q)), puJ_neg]; congr 1; omega
    rw [l1, l2, puJ_add]
    refine ⟨_, D, rfl, rfl, hD, by omega, ?_⟩
    have a1 := si_abs (z := X - s.1 * D) (r := (puMp q q0).1 - (s.1 : Rat)) hD.1 (by rw [Rat.intCast_sub, Rat.intCast_mul, r1]; grind)
    have a2 := si_abs (z := Y - s.2 * D) (r := (puMp q q0).2 - (s.2 : Rat)) hD.1 (by rw [Rat.intCast_sub, Rat.intCast_mul, r2]; grind)
    unfold si_p si_K
    rw [puE_pos c, Rat.intCast_add, a1, a2]; grind
  · obtain ⟨d0, il, li, -⟩ := puKd_2 v v0 (by omega)
    obtain ⟨-, -, e3, e4, e5, e6, e7⟩ := k2 d0
    obtain ⟨f1, f2⟩ := puFr_bd v v0
    obtain ⟨t1, t2⟩ := puTo_bd v v0
    rw [xsBr_neg (by rw [k0, show (1 : Int32) = puI ((1 : Nat) : Int) by rfl, puI_eqN (by omega) (by omega)]; exact c), e3, e4, e5, e6, e7]
    simp (disch := omega) only [puI_sub, pu_iabs, puI_add, puI_l, xsLt_eq]
    rw [show (((puFr q q0).1 - s.1).natAbs : Int) + (((puFr q q0).2 - s.2).natAbs : Int) = hu_d s (puFr q q0) by rfl, show (((puTo q q0).1 - s.1).natAbs : Int) + (((puTo q q0).2 - s.2).natAbs : Int) = hu_d s (puTo q q0) by rfl]
    have g1 : 0 ≤ hu_d s (puFr q q0) ∧ hu_d s (puFr q q0) ≤ 4000 := by unfold hu_d; omega
    have g2 : 0 ≤ hu_d s (puTo q q0) ∧ hu_d s (puTo q q0) ≤ 4000 := by unfold hu_d; omega
    unfold si_p
    rw [puE_neg c]
    by_cases d : hu_d s (puFr q q0) < hu_d s (puTo q q0)
    · rw [if_neg (by rw [puJ_lt (by omega) (by omega) (by omega) (by omega)]; omega), puE_pos d]
      exact ⟨_, 1, rfl, rfl, by omega, by omega, by rw [si_KC, show ((1 : Int) : Rat) = 1 by rfl, Rat.mul_one]⟩
    · rw [puE_neg d]
      by_cases f : hu_d s (puTo q q0) < hu_d s (puFr q q0)
      · rw [if_pos ((puJ_lt (by omega) (by omega) (by omega) (by omega)).mpr f)]
        exact ⟨_, 1, rfl, rfl, by omega, by omega, by rw [si_KC, show ((1 : Int) : Rat) = 1 by rfl, Rat.mul_one]⟩
      · rw [if_neg (by rw [puJ_lt (by omega) (by omega) (by omega) (by omega)]; exact f)]
        refine ⟨_, 1, rfl, rfl, by omega, by omega, ?_⟩
        rw [show hu_d s (puFr q q0) = hu_d s (puTo q q0) by omega, si_KC, show ((1 : Int) : Rat) = 1 by rfl, Rat.mul_one]
theorem p_sight45 {n : Nat} {G : puG} {lx ly rx ry : Nat → Int32} (hv : puVal n G) (hk : puKW n G lx ly rx ry) {q0 : puS} (v0 : puV q0) {s : Int × Int} (hs : hu_in s) {o7 : _} (h7 : puQ o7.1 o7.2.1 o7.2.2.1 o7.2.2.2 0 q0) {k0 : Int32} {x0 y0 l0 : Int64} {c0 c1 c2 c3 : Int32} :
    puOk (xsWh (fun s21 => fX10_sight_L45 lx ly rx ry (puI (n : Int)) (puI s.1) (puI s.2) o7 s21.1 s21.2.1 s21.2.2.1 s21.2.2.2.1 s21.2.2.2.2.1 s21.2.2.2.2.2.1 s21.2.2.2.2.2.2.1 s21.2.2.2.2.2.2.2.1 s21.2.2.2.2.2.2.2.2.1 s21.2.2.2.2.2.2.2.2.2.1 s21.2.2.2.2.2.2.2.2.2.2.1 s21.2.2.2.2.2.2.2.2.2.2.2) ((-1 : Int32), (0 : Int64), (1 : Int64), (0 : Int32), k0, x0, y0, l0, c0, c1, c2, c3)) (fun r => r.1 = puI (si_b G q0 s n)) := by
  have hn := hv.1
  refine puFor1 n (fun m z => z.2.2.2.1 = puI (m : Int) ∧ z.1 = puI (si_b G q0 s m) ∧ (si_b G q0 s m ≠ -1 → ∃ U L : Int, z.2.1 = puJ U ∧ z.2.2.1 = puJ L ∧ (0 < L ∧ L ≤ 7984008) ∧ (0 ≤ U ∧ U ≤ 40000000000) ∧ (U : Rat) = si_K s (si_p (G (si_b G q0 s m).toNat) q0 s) * (L : Rat))) _ ⟨rfl, rfl, fun h => absurd rfl h⟩ ?_ ?_
  · rintro m ⟨y9, y10, y11, y12, k0, x0, y0, l0, c0, c1, c2, c3⟩ hm ⟨q1, q2, q3⟩
    simp only at q1 q2 q3
    subst q1; subst q2
    have v := hv.2 m hm
    obtain ⟨o, eo, ho⟩ := p_study (hk m hm) h7 v v0 (by omega) (by omega) (k0 := k0) (x0 := x0) (y0 := y0) (l0 := l0) (c0 := c0) (c1 := c1) (c2 := c2) (c3 := c3)
    have kl := puKd_le (G m) q0
    have sb := si_bd G q0 s m
    have ko : (o.1 = puI ((0 : Nat) : Int)) ↔ puKd (G m) q0 = 0 := by rw [ho.1, puI_eqN (by omega) (by omega)]
    simp only [fX10_sight_L45]
    rw [pu_go hm (by omega), show (0 : Int32) = puI ((0 : Nat) : Int) by rfl, xsBd_some eo, xsBr_iff ko]
    have keep : ¬ si_c G q0 s m (si_b G q0 s m) → ∃ s', fX10_sight_J131 (puI (m : Int)) o (puI (si_b G q0 s m)) y10 y11 = some (.inl s') ∧ s'.2.2.2.1 = puI ((m + 1 : Nat) : Int) ∧ s'.1 = puI (si_b G q0 s (m + 1)) ∧ (si_b G q0 s (m + 1) ≠ -1 → ∃ U L : Int, s'.2.1 = puJ U ∧ s'.2.2.1 = puJ L ∧ (0 < L ∧ L ≤ 7984008) ∧ (0 ≤ U ∧ U ≤ 40000000000) ∧ (U : Rat) = si_K s (si_p (G (si_b G q0 s (m + 1)).toNat) q0 s) * (L : Rat)) := by
      intro c
      simp only [fX10_sight_J131]
      rw [xsLt_eq, puI_s1, si_n c]
      exact ⟨_, rfl, rfl, rfl, q3⟩
    by_cases c : puKd (G m) q0 = 0
    · rw [xsBr_pos c, xsBd_sm]
      exact keep (fun q => q.1 c)
    obtain ⟨U, L, e1, e2, bL, bU, eU⟩ := p_way v v0 hs c ho
    rw [xsBr_neg c, e1, xsBd_sm, show (-1 : Int32) = puI (-1) by rfl]
    have take : si_c G q0 s m (si_b G q0 s m) → ∃ v', fX10_sight_J116 (puI (m : Int)) o (puJ U) = some v' ∧ ∃ s', fX10_sight_J131 (puI (m : Int)) o v'.1 v'.2.1 v'.2.2 = some (.inl s') ∧ s'.2.2.2.1 = puI ((m + 1 : Nat) : Int) ∧ s'.1 = puI (si_b G q0 s (m + 1)) ∧ (si_b G q0 s (m + 1) ≠ -1 → ∃ U L : Int, s'.2.1 = puJ U ∧ s'.2.2.1 = puJ L ∧ (0 < L ∧ L ≤ 7984008) ∧ (0 ≤ U ∧ U ≤ 40000000000) ∧ (U : Rat) = si_K s (si_p (G (si_b G q0 s (m + 1)).toNat) q0 s) * (L : Rat)) := by
      intro c
      refine ⟨_, rfl, ?_⟩
      simp only [fX10_sight_J131]
      rw [xsLt_eq, puI_s1, si_y c]
      refine ⟨_, rfl, rfl, rfl, fun _ => ⟨U, L, rfl, e2, bL, bU, ?_⟩⟩
      rw [Int.toNat_natCast]; exact eU
    by_cases d : si_b G q0 s m = -1
    · obtain ⟨v', ev, h⟩ := take ⟨c, Or.inl d⟩
      rw [xsBr_pos (by rw [d]), ev, xsBd_sm]
      exact h
    obtain ⟨U', L', f1, f2, bL', bU', eU'⟩ := q3 d
    have nd : ¬ puI (si_b G q0 s m) = puI (-1) := by
      rcases sb with sb | ⟨k, h1, h2, -⟩
      · exact absurd sb d
      · rw [h2, puI_eq (by omega) (by omega) (by omega) (by omega)]; omega
    have m1 := pu_mb (v := U') (w := L) 40000000000 7984008 (by omega) (by omega) (by omega) (by omega)
    have m2 := pu_mb (v := U) (w := L') 40000000000 7984008 (by omega) (by omega) (by omega) (by omega)
    have cm := pg_cmp (X := U) (Y := U') (D := L) (E := L') bL.1 bL'.1 eU eU'
    subst f1; subst f2
    rw [xsBr_neg nd, e2, puJ_mul, puJ_mul]
    by_cases f : U' * L ≤ U * L'
    · rw [xsBr_pos ((puJ_le (by omega) (by omega) (by omega) (by omega)).mpr f), xsBd_sm]
      refine keep (fun q => ?_)
      have := cm.1.mpr (q.2.resolve_left d)
      omega
    · obtain ⟨v', ev, h⟩ := take ⟨c, Or.inr (cm.1.mp (by omega))⟩
      rw [xsBr_neg (fun q => f ((puJ_le (by omega) (by omega) (by omega) (by omega)).mp q)), ev, xsBd_sm]
      exact h
  · rintro ⟨y9, y10, y11, y12, k0, x0, y0, l0, c0, c1, c2, c3⟩ ⟨q1, q2, q3⟩
    simp only at q1 q2
    subst q1; subst q2
    simp only [fX10_sight_L45]
    rw [pu_out (by omega)]
    exact ⟨_, rfl, rfl⟩
theorem p_stretch {f : Nat → Int32} {x y a b : Int} (hx : puInC x) (hy : puInC y) (ha : puInC a) (hb : puInC b) : puOk (fX11_takesStretch f (puI x) (puI y) (puI a) (puI b)) (fun g => puM4 g (ch_o x y a b 0)) := by
  unfold puInC at *
  unfold fX11_takesStretch
  rw [p_isAhead (by omega) (by omega) (by omega) (by omega), xsBd_sm, xsBr_10, xsBd_sm]
  have e : (puB (puLi (a, b) (x, y)) = 0) ↔ (x < a ∨ (x = a ∧ y ≤ b)) := by
    rw [puB_0]
    unfold puLi
    simp only
    omega
  rw [puB_iff e]
  unfold fX11_takesStretch_J16 fX11_takesStretch_J33 fX11_takesStretch_J50 fX11_takesStretch_J66 fX11_takesStretch_J83 ch_o
  have rows : ∀ p q r s : Int, puM4 (upd (upd (upd (upd f 0 (puI p)) 1 (puI q)) 2 (puI r)) 3 (puI s)) (p, q, r, s, 0) := fun p q r s => ⟨by rw [puUpd_ne (by omega), puUpd_ne (by omega), puUpd_ne (by omega), puUpd_eq], by rw [puUpd_ne (by omega), puUpd_ne (by omega), puUpd_eq], by rw [puUpd_ne (by omega), puUpd_eq], by rw [puUpd_eq]⟩
  rw [show (0 : Int32) = puI ((0 : Nat) : Int) by rfl, show (1 : Int32) = puI ((1 : Nat) : Int) by rfl, show (2 : Int32) = puI ((2 : Nat) : Int) by rfl, show (3 : Int32) = puI ((3 : Nat) : Int) by rfl]
  by_cases c : x < a ∨ (x = a ∧ y ≤ b)
  · have c1 : ¬ puB (x < a ∨ (x = a ∧ y ≤ b)) = puI ((0 : Nat) : Int) := puB_n0.mpr c
    simp (disch := omega) only [xsBr_neg c1, puE_pos c, xsBd_sm, xsCk_in, xsLt_eq, puI_clN]
    exact puOk_some (rows _ _ _ _)
  · have c1 : puB (x < a ∨ (x = a ∧ y ≤ b)) = puI ((0 : Nat) : Int) := puB_0.mpr c
    simp (disch := omega) only [xsBr_pos c1, puE_neg c, xsBd_sm, xsCk_in, xsLt_eq, puI_clN]
    exact puOk_some (rows _ _ _ _)
theorem p_nearer {q q0 : puS} (v : puV q) (v0 : puV q0) {s : Int × Int} (hs : hu_in s) (hz : puAi q0 = s ∨ puZi q0 = s) (h : puKd q q0 = 2) {f : Nat → Int32} (h0 : f 0 = puI (puFr q q0).1) (h1 : f 1 = puI (puFr q q0).2) (h2 : f 2 = puI (puTo q q0).1) (h3 : f 3 = puI (puTo q q0).2) {x0 y0 d0 : Int64} : puOk (fX11_takesNearer f x0 y0 d0 (puI s.1) (puI s.2)) (fun o => puRep o.1 o.2.1 o.2.2 (si_p q q0 s)) := by
  obtain ⟨z0, il, li, -⟩ := puKd_2 v v0 h
  obtain ⟨f1, f2⟩ := puFr_bd v v0
  obtain ⟨t1, t2⟩ := puTo_bd v v0
  obtain ⟨hs1, hs2⟩ := hs
  have g1 : 0 ≤ hu_d s (puFr q q0) ∧ hu_d s (puFr q q0) ≤ 4000 := by unfold hu_d; omega
  have g2 : 0 ≤ hu_d s (puTo q q0) ∧ hu_d s (puTo q q0) ≤ 4000 := by unfold hu_d; omega
  have ep : si_p q q0 s = puE (hu_d s (puFr q q0) < hu_d s (puTo q q0)) (puC (puFr q q0)) (puC (puTo q q0)) := by unfold si_p; rw [puE_neg (by omega)]
  have vs : puV ((puFr q q0).1, (puFr q q0).2, (puTo q q0).1, (puTo q q0).2, 0) := by
    unfold puLi at li
    unfold puV puW puH
    simp only
    omega
  have m4 : puM4 f ((puFr q q0).1, (puFr q q0).2, (puTo q q0).1, (puTo q q0).2, 0) := ⟨h0, h1, h2, h3⟩
  have rs := puRep_C (x := s.1) (y := s.2) hs1 hs2
  unfold fX11_takesNearer
  rw [show (0 : Int32) = puI ((0 : Nat) : Int) by rfl, show (1 : Int32) = puI ((1 : Nat) : Int) by rfl, show (2 : Int32) = puI ((2 : Nat) : Int) by rfl, show (3 : Int32) = puI ((3 : Nat) : Int) by rfl]
  simp (disch := omega) only [xsCk_in, xsLt_eq, puI_clN]
  rw [h0, h1, h2, h3]
  simp (disch := omega) only [puI_l, puJ_sub, pu_labs, puJ_add]
  rw [show (((puFr q q0).1 - s.1).natAbs : Int) + (((puFr q q0).2 - s.2).natAbs : Int) = hu_d s (puFr q q0) by rfl, show (((puTo q q0).1 - s.1).natAbs : Int) + (((puTo q q0).2 - s.2).natAbs : Int) = hu_d s (puTo q q0) by rfl]
  have ec : xsBr (puJ (hu_d s (puTo q q0)) ≤ puJ (hu_d s (puFr q q0))) (some (puI ((0 : Nat) : Int))) (some (puI ((1 : Nat) : Int))) = some (puB (hu_d s (puFr q q0) < hu_d s (puTo q q0))) := by
    by_cases c : hu_d s (puTo q q0) ≤ hu_d s (puFr q q0)
    · rw [xsBr_pos ((puJ_le (by omega) (by omega) (by omega) (by omega)).mpr c), puB_neg (by omega)]; rfl
    · rw [xsBr_neg (fun z => c ((puJ_le (by omega) (by omega) (by omega) (by omega)).mp z)), puB_pos (by omega)]; rfl
  rw [ec, xsBd_sm]
  unfold fX11_takesNearer_J69
  rw [puI_l (by omega) (by omega), puI_l (by omega) (by omega), show (1 : Int64) = puJ 1 by rfl, p_isOn2 m4 vs rs, xsBd_sm]
  by_cases c : puOn ((puFr q q0).1, (puFr q q0).2, (puTo q q0).1, (puTo q q0).2, 0) (puC s)
  · obtain ⟨o, eo, -, ho⟩ := p_sharesPoint rs (x0 := x0) (y0 := y0) (d0 := d0)
    rw [pu_bt c, xsBd_some eo, xsBd_sm]
    have es : si_p q q0 s = puC s := by
      obtain ⟨-, l1, l2⟩ := c
      have l1' : puLe (puC (puFr q q0)) (puC s) := l1
      have l2' : puLe (puC s) (puC (puTo q q0)) := l2
      obtain ⟨-, -, k2⟩ := puFr_c q q0
      obtain ⟨-, -, k4⟩ := puTo_c q q0
      rw [ep]
      rcases hz with hz | hz
      · have ef : puFr q q0 = s := by
          apply puC_inj.mp
          refine puLe_as l1' ?_
          rw [← hz]; exact k2
        have nt : ¬ hu_d s (puTo q q0) ≤ 0 := by
          intro z
          have := hu_d0 z
          rw [ef, this] at li
          unfold puLi at li; omega
        rw [puE_pos (by rw [ef, hu_dz]; omega), ef]
      · have et : puTo q q0 = s := by
          apply puC_inj.mp
          refine puLe_as ?_ l2'
          rw [← hz]; exact k4
        rw [puE_neg (by rw [et, hu_dz]; omega), et]
    rw [es]
    exact puOk_some ho
  · rw [pu_bf c]
    unfold fX11_takesNearer_J121 fX11_takesNearer_J143
    by_cases d : hu_d s (puFr q q0) < hu_d s (puTo q q0)
    · obtain ⟨o, eo, -, ho⟩ := p_sharesPoint (puRep_C (x := (puFr q q0).1) (y := (puFr q q0).2) f1 f2) (x0 := x0) (y0 := y0) (d0 := d0)
      rw [pu_bt d, show (0 : Int32) = puI ((0 : Nat) : Int) by rfl, show (1 : Int32) = puI ((1 : Nat) : Int) by rfl]
      simp (disch := omega) only [xsCk_in, puI_clN]
      rw [h0, puI_l (by omega) (by omega), xsBd_sm, show puI ((0 : Nat) : Int) = (0 : Int32) by rfl, pu_bt d, h1, puI_l (by omega) (by omega), xsBd_sm, show (1 : Int64) = puJ 1 by rfl, xsBd_some eo, xsBd_sm, ep, puE_pos d]
      exact puOk_some ho
    · obtain ⟨o, eo, -, ho⟩ := p_sharesPoint (puRep_C (x := (puTo q q0).1) (y := (puTo q q0).2) t1 t2) (x0 := x0) (y0 := y0) (d0 := d0)
      rw [pu_bf d, show (2 : Int32) = puI ((2 : Nat) : Int) by rfl, show (3 : Int32) = puI ((3 : Nat) : Int) by rfl]
      simp (disch := omega) only [xsCk_in, puI_clN]
      rw [h2, puI_l (by omega) (by omega), xsBd_sm, pu_bf d, h3, puI_l (by omega) (by omega), xsBd_sm, show (1 : Int64) = puJ 1 by rfl, xsBd_some eo, xsBd_sm, ep, puE_neg d]
      exact puOk_some ho
theorem p_msight38 {n : Nat} {G : puG} {w : Nat → Int32} (hv : puVal n G) (hw : puMW n G w) {s o : Int × Int} (hs : hu_in s) (ho : hu_in o) {one two sh : Nat → Int32} {x y d : Int64} :
    puOk (xsWh (fun s15 => fX11_sight_L38 w (puI s.1) (puI s.2) (puI o.1) (puI o.2) s15.1 s15.2.1 s15.2.2.1 s15.2.2.2.1 s15.2.2.2.2.1 s15.2.2.2.2.2.1 s15.2.2.2.2.2.2.1 s15.2.2.2.2.2.2.2.1 s15.2.2.2.2.2.2.2.2.1 s15.2.2.2.2.2.2.2.2.2) ((-1 : Int32), (0 : Int64), (1 : Int64), (0 : Int32), one, two, sh, x, y, d)) (fun r => r.1 = puI (si_b G (ch_o s.1 s.2 o.1 o.2 0) s n)) := by
  have hn := hv.1
  obtain ⟨v0, ends⟩ := ch_oE hs ho
  have hz : puAi (ch_o s.1 s.2 o.1 o.2 0) = s ∨ puZi (ch_o s.1 s.2 o.1 o.2 0) = s := by
    rcases ends with ⟨a, -⟩ | ⟨-, b⟩
    · exact Or.inl a
    · exact Or.inr b
  have on0 : ∀ m, m < n → puKd (G m) (ch_o s.1 s.2 o.1 o.2 0) ≠ 0 → si_on s o (si_p (G m) (ch_o s.1 s.2 o.1 o.2 0) s) := fun m hm h => si_onO hs ho (si_pO (hv.2 m hm) v0 h)
  have stretch : ∀ f, puOk (fX11_takesStretch f (puI s.1) (puI s.2) (puI o.1) (puI o.2)) (fun g => puM4 g (ch_o s.1 s.2 o.1 o.2 0)) := fun f => p_stretch hs.1 hs.2 ho.1 ho.2
  generalize ch_o s.1 s.2 o.1 o.2 0 = q0 at *
  have hs' := hs
  obtain ⟨hs1, hs2⟩ := hs'
  have ho' := ho
  obtain ⟨ho1, ho2⟩ := ho'
  refine puFor1 n (fun m z => z.2.2.2.1 = puI (m : Int) ∧ z.1 = puI (si_b G q0 s m) ∧ (si_b G q0 s m ≠ -1 → ∃ U L : Int, z.2.1 = puJ U ∧ z.2.2.1 = puJ L ∧ (0 < L ∧ L ≤ 7984008) ∧ (0 ≤ U ∧ U ≤ 40000000000) ∧ (U : Rat) = si_M s o (si_p (G (si_b G q0 s m).toNat) q0 s) * (L : Rat))) _ ⟨rfl, rfl, fun h => absurd rfl h⟩ ?_ ?_
  · rintro m ⟨y5, y6, y7, y8, one, two, sh, x, y, d⟩ hm ⟨q1, q2, q3⟩
    simp only at q1 q2 q3
    subst q1; subst q2
    have v := hv.2 m hm
    obtain ⟨f, ef, hf⟩ := p_takes (f := one) (show m < 24 by omega) (hw.2 m hm)
    obtain ⟨g, eg, hg⟩ := stretch two
    obtain ⟨r, er, r0, r1, r2⟩ := p_shares hf hg v v0 (sh := sh) (x0 := x) (y0 := y) (d0 := d)
    have kl := puKd_le (G m) q0
    have sb := si_bd G q0 s m
    simp only [fX11_sight_L38]
    rw [p_many hw, xsBd_sm, pu_go hm (by omega), xsBd_some ef, xsBd_some eg, xsBd_some er, r0, show (0 : Int32) = puI ((0 : Nat) : Int) by rfl, show (2 : Int32) = puI ((2 : Nat) : Int) by rfl, xsBr_iff (puI_eqN (a := puKd (G m) q0) (b := 0) (by omega) (by omega)), xsBr_iff (puI_eqN (a := puKd (G m) q0) (b := 2) (by omega) (by omega))]
    have keep : ∀ a b c : Int64, ¬ si_c G q0 s m (si_b G q0 s m) → ∃ s', fX11_sight_J177 (puI (m : Int)) f g r (puI (si_b G q0 s m)) y6 y7 a b c = some (.inl s') ∧ s'.2.2.2.1 = puI ((m + 1 : Nat) : Int) ∧ s'.1 = puI (si_b G q0 s (m + 1)) ∧ (si_b G q0 s (m + 1) ≠ -1 → ∃ U L : Int, s'.2.1 = puJ U ∧ s'.2.2.1 = puJ L ∧ (0 < L ∧ L ≤ 7984008) ∧ (0 ≤ U ∧ U ≤ 40000000000) ∧ (U : Rat) = si_M s o (si_p (G (si_b G q0 s (m + 1)).toNat) q0 s) * (L : Rat)) := by
      intro a b c h
      simp only [fX11_sight_J177]
      rw [xsLt_eq, puI_s1, si_n h]
      exact ⟨_, rfl, rfl, rfl, q3⟩
    by_cases c : puKd (G m) q0 = 0
    · rw [xsBr_pos c, xsBd_sm]
      exact keep _ _ _ (fun q => q.1 c)
    rw [xsBr_neg c]
    obtain ⟨t, et, ht⟩ : ∃ t : Int64 × Int64 × Int64, xsBr (puKd (G m) q0 = 2) (xsBd (fX11_takesNearer r.2.1 r.2.2.1 r.2.2.2.1 r.2.2.2.2 (puI s.1) (puI s.2)) (fun o61 => some (o61.1, o61.2.1, o61.2.2))) (some (r.2.2.1, r.2.2.2.1, r.2.2.2.2)) = some t ∧ puRep t.1 t.2.1 t.2.2 (si_p (G m) q0 s) := by
      by_cases k : puKd (G m) q0 = 2
      · obtain ⟨h0, h1, h2, h3⟩ := r2 k
        obtain ⟨t, et, ht⟩ := p_nearer v v0 hs hz k h0 h1 h2 h3 (x0 := r.2.2.1) (y0 := r.2.2.2.1) (d0 := r.2.2.2.2)
        rw [xsBr_pos k, xsBd_some et]
        exact ⟨_, rfl, ht⟩
      · rw [xsBr_neg k]
        refine ⟨_, rfl, ?_⟩
        have k1 : puKd (G m) q0 = 1 := by omega
        have e : si_p (G m) q0 s = puMp (G m) q0 := by unfold si_p; rw [puE_pos k1]
        rw [e]; exact r1 k1
    rw [et, xsBd_sm]
    obtain ⟨X, Y, D, e1, e2, e3, hD, ⟨p1, p2⟩, bX, bY⟩ := ht
    have m1 := pu_mb (v := s.1) (w := D) 999 7984008 (by omega) (by omega) (by omega) (by omega)
    have m2 := pu_mb (v := s.2) (w := D) 999 7984008 (by omega) (by omega) (by omega) (by omega)
    -- the coordinate that counts
    obtain ⟨Z, eZ, bZ, hZ⟩ : ∃ Z : Int, xsBr (puI s.1 = puI o.1) (some (puJ Y - (puI s.2).toInt64 * puJ D)) (some (puJ X - (puI s.1).toInt64 * puJ D)) = some (puJ Z) ∧ (-16000000000 ≤ Z ∧ Z ≤ 16000000000) ∧ ((Z.natAbs : Int) : Rat) = si_M s o (si_p (G m) q0 s) * (D : Rat) := by
      rw [xsBr_iff (puI_eq (by omega) (by omega) (by omega) (by omega)), puI_l (by omega) (by omega), puI_l (by omega) (by omega), puJ_mul, puJ_mul, puJ_sub, puJ_sub]
      unfold si_M
      by_cases k : s.1 = o.1
      · rw [xsBr_pos k, puE_pos k]
        exact ⟨_, rfl, by omega, si_abs hD.1 (by rw [Rat.intCast_sub, Rat.intCast_mul, p2]; grind)⟩
      · rw [xsBr_neg k, puE_neg k]
        exact ⟨_, rfl, by omega, si_abs hD.1 (by rw [Rat.intCast_sub, Rat.intCast_mul, p1]; grind)⟩
    unfold fX11_sight_J92
    rw [e1, e2, e3, eZ, xsBd_sm]
    unfold fX11_sight_J124
    have ea : xsBr ((0 : Int64) ≤ puJ Z) (some (puJ Z)) (xsLt (-puJ Z) (fun x52 => some x52)) = some (puJ (Z.natAbs : Int)) := pu_abs (by omega)
    rw [ea, xsBd_sm]
    unfold fX11_sight_J138 fX11_sight_J163
    rw [show (-1 : Int32) = puI (-1) by rfl]
    have take : si_c G q0 s m (si_b G q0 s m) → ∃ s', fX11_sight_J177 (puI (m : Int)) f g r (puI (m : Int)) (puJ (Z.natAbs : Int)) (puJ D) (puJ X) (puJ Y) (puJ D) = some (.inl s') ∧ s'.2.2.2.1 = puI ((m + 1 : Nat) : Int) ∧ s'.1 = puI (si_b G q0 s (m + 1)) ∧ (si_b G q0 s (m + 1) ≠ -1 → ∃ U L : Int, s'.2.1 = puJ U ∧ s'.2.2.1 = puJ L ∧ (0 < L ∧ L ≤ 7984008) ∧ (0 ≤ U ∧ U ≤ 40000000000) ∧ (U : Rat) = si_M s o (si_p (G (si_b G q0 s (m + 1)).toNat) q0 s) * (L : Rat)) := by
      intro c
      simp only [fX11_sight_J177]
      rw [xsLt_eq, puI_s1, si_y c]
      refine ⟨_, rfl, rfl, rfl, fun _ => ⟨_, D, rfl, rfl, hD, by omega, ?_⟩⟩
      rw [Int.toNat_natCast]; exact hZ
    by_cases k : si_b G q0 s m = -1
    · rw [xsBr_pos (by rw [k]), xsBd_sm]
      exact take ⟨c, Or.inl k⟩
    obtain ⟨U', L', f1, f2, bL', bU', eU'⟩ := q3 k
    obtain ⟨j, j1, j2, j3⟩ := sb.resolve_left k
    have nd : ¬ puI (si_b G q0 s m) = puI (-1) := by
      rw [j2, puI_eq (by omega) (by omega) (by omega) (by omega)]; omega
    have cc := si_cmp (on0 m hm c) (on0 j (by omega) j3)
    have ej : (si_b G q0 s m).toNat = j := by omega
    rw [ej] at eU'
    have n1 := pu_mb (v := U') (w := D) 40000000000 7984008 (by omega) (by omega) (by omega) (by omega)
    have n2 := pu_mb (v := (Z.natAbs : Int)) (w := L') 40000000000 7984008 (by omega) (by omega) (by omega) (by omega)
    have cm := pg_cmp (X := (Z.natAbs : Int)) (Y := U') (D := D) (E := L') hD.1 bL'.1 hZ eU'
    subst f1; subst f2
    rw [xsBr_neg nd, puJ_mul, puJ_mul]
    by_cases l : (Z.natAbs : Int) * L' < U' * D
    · rw [xsBr_pos ((puJ_lt (by omega) (by omega) (by omega) (by omega)).mpr l), xsBd_sm]
      exact take ⟨c, Or.inr (by rw [ej]; exact cc.mpr (cm.1.mp l))⟩
    · rw [xsBr_neg (fun q => l ((puJ_lt (by omega) (by omega) (by omega) (by omega)).mp q)), xsBd_sm]
      refine keep _ _ _ (fun q => ?_)
      have z := q.2.resolve_left k
      rw [ej] at z
      exact l (cm.1.mpr (cc.mp z))
  · rintro ⟨y5, y6, y7, y8, one, two, sh, x, y, d⟩ ⟨q1, q2, q3⟩
    simp only at q1 q2
    subst q1; subst q2
    simp only [fX11_sight_L38]
    rw [p_many hw, xsBd_sm, pu_out (by omega)]
    exact ⟨_, rfl, rfl⟩
theorem q_sight : pc_sight puRl := by
  intro kIsKept kIsStale hiLatest hiSize scLength scFault scAt scNumber piSegmentsNow enKind enFromX enFromY enToX enToY tiMeetingPairs tiAlongPairs tiSize evSize evCrossings evSegmentsNow grEdges grQueued huSize huBestX huBestY scBytes scTold tiTouching tiLyingAlong evBundle evCrossingOf evEventOf evLeftEvent evRightEvent grDegree grFar grQueue huX huY enX enY enLower evX evY evLower S mThrown mRemembered mHasImage mIsLaid mEvents mCrossings mEdges mTaped mPoint mEnd mBegin mFaultAt mActs mWorld mImage mDraft mEarlier mOne mTwo mShare mCrossingOf mBundle mEventOf mDegree mFrom mTo mMet mTape mFive mTold mFar mViews mHullX mHullY mEndX mEndY mMeets mMeetsOf mX mY mD mHeightUp mHeightLow mEventX mEventY mEventD mUpper mLower hR a0 a1 a2 a3
  obtain ⟨n, G, rw, ri, rh, rt, rk, rm⟩ := hR
  obtain ⟨x, rfl, x1, x2⟩ := puI_ex a0
  obtain ⟨y, rfl, y1, y2⟩ := puI_ex a1
  obtain ⟨a, rfl, b1, b2⟩ := puI_ex a2
  obtain ⟨b, rfl, b3, b4⟩ := puI_ex a3
  obtain ⟨w1, w2, w3⟩ := id rw
  have hS : xsSu S 2 ((S 2).1, (S 2).2.1, (S 2).2.2.1, (S 2).2.2.2.1, (S 2).2.2.2.2.1, (S 2).2.2.2.2.2) = S := xsSu_self rfl
  unfold fX10_sight fX11_sight
  rw [w2.2.2, p_checkPoint x1 x2 y1 y2, p_noPlace x1 x2 y1 y2, xsBd_sm, xsBd_sm]
  by_cases c : puInC x ∧ puInC y
  case neg =>
    rw [puCk_neg c, puB_pos c, puE_pos c]
    simp only [xsTh]
    rw [xsBr_neg (by decide)]
    refine ⟨_, _, rfl, rfl, Or.inr ⟨_, _, rfl, rfl, rfl, ?_⟩⟩
    dsimp only
    rw [hS]
    exact ⟨n, G, rw, ri, rh, rt, rk, rm⟩
  rw [puCk_pos c, puB_neg (fun q => q c), puE_neg (fun q => q c)]
  simp only [xsTh]
  rw [xsBr_T, p_checkPoint b1 b2 b3 b4, p_noPlace b1 b2 b3 b4, xsBd_sm, xsBd_sm]
  by_cases d : puInC a ∧ puInC b
  case neg =>
    rw [puCk_neg d, puB_pos d, puE_pos d]
    simp only [xsTh]
    rw [xsBr_neg (by decide)]
    refine ⟨_, _, rfl, rfl, Or.inr ⟨_, _, rfl, rfl, rfl, ?_⟩⟩
    dsimp only
    rw [hS]
    exact ⟨n, G, rw, ri, rh, rt, rk, rm⟩
  rw [puCk_pos d, puB_neg (fun q => q d), puE_neg (fun q => q d)]
  simp only [xsTh]
  have ep := p_put (lx := (S 2).1) (ly := (S 2).2.1) (rx := (S 2).2.2.1) (ry := (S 2).2.2.2.1) (s := 0) (by omega) 0 c.1 c.2 d.1 d.2
  have hq : puQ (upd (S 2).1 0 (puI (ch_o x y a b 0).1)) (upd (S 2).2.1 0 (puI (ch_o x y a b 0).2.1)) (upd (S 2).2.2.1 0 (puI (ch_o x y a b 0).2.2.1)) (upd (S 2).2.2.2.1 0 (puI (ch_o x y a b 0).2.2.2.1)) 0 (ch_o x y a b 0) := ⟨puUpd_eq _ _ _, puUpd_eq _ _ _, puUpd_eq _ _ _, puUpd_eq _ _ _⟩
  obtain ⟨r, er, hr⟩ := p_sight45 w1 w2.1 (ch_oV c.1 c.2 d.1 d.2 (by omega)) (s := (x, y)) c (o7 := (upd (S 2).1 0 (puI (ch_o x y a b 0).1), upd (S 2).2.1 0 (puI (ch_o x y a b 0).2.1), upd (S 2).2.2.1 0 (puI (ch_o x y a b 0).2.2.1), upd (S 2).2.2.2.1 0 (puI (ch_o x y a b 0).2.2.2.1))) hq (k0 := enKind) (x0 := enX) (y0 := enY) (l0 := enLower) (c0 := enFromX) (c1 := enFromY) (c2 := enToX) (c3 := enToY)
  obtain ⟨r2, er2, hr2⟩ := p_msight38 w1 w3 (s := (x, y)) (o := (a, b)) c d (one := mOne) (two := mTwo) (sh := mShare) (x := mX) (y := mY) (d := mD)
  have e0 : fX7_put (S 2).1 (S 2).2.1 (S 2).2.2.1 (S 2).2.2.2.1 (0 : Int32) (puI x) (puI y) (puI a) (puI b) = some (upd (S 2).1 0 (puI (ch_o x y a b 0).1), upd (S 2).2.1 0 (puI (ch_o x y a b 0).2.1), upd (S 2).2.2.1 0 (puI (ch_o x y a b 0).2.2.1), upd (S 2).2.2.2.1 0 (puI (ch_o x y a b 0).2.2.2.1)) := ep
  rw [xsBr_T, e0, xsBd_sm, xsBd_some er, xsBd_some er2]
  simp only [fX10_sight_J137, fX11_sight_J183]
  refine ⟨_, _, rfl, rfl, Or.inl ⟨_, rfl, hr.trans hr2.symm, rfl, n, G, ?_, ?_, puRh_S rh (fun i hi => xsSu_ne (by omega)), rt, rk, rm⟩⟩
  · rw [xsSu_ne (by decide)]; exact rw
  · rw [xsSu_ne (by decide)]; exact ri

