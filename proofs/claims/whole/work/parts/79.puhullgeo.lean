/-! PURE: HULL: the way round comes back to where it began -/
def hu_e (G : puG) (j : Nat) : Int × Int := if j % 2 = 0 then puAi (G (j / 2)) else puZi (G (j / 2))
def hu_in (p : Int × Int) : Prop := (-999 ≤ p.1 ∧ p.1 ≤ 999) ∧ (-999 ≤ p.2 ∧ p.2 ≤ 999)
theorem hu_e_bd {n : Nat} {G : puG} (hv : puVal n G) {j : Nat} (hj : j < 2 * n) : hu_in (hu_e G j) := by
  obtain ⟨⟨b1, b2, b3, b4⟩, -, -⟩ := hv.2 (j / 2) (by omega)
  unfold hu_e hu_in
  by_cases c : j % 2 = 0
  · rw [if_pos c]; exact ⟨b1, b2⟩
  · rw [if_neg c]; exact ⟨b3, b4⟩
def hu_x (p b e : Int × Int) : Int := (b.1 - p.1) * (e.2 - p.2) - (b.2 - p.2) * (e.1 - p.1)
def hu_d (p e : Int × Int) : Int := ((e.1 - p.1).natAbs : Int) + ((e.2 - p.2).natAbs : Int)
def hu_f (u v : Int) (p e : Int × Int) : Int := u * (e.1 - p.1) + v * (e.2 - p.2)
def hu_c (p b e : Int × Int) : Prop := hu_x p b e < 0 ∨ (hu_x p b e = 0 ∧ hu_d p b < hu_d p e)
noncomputable def hu_s (p b e : Int × Int) : Int × Int := puE (hu_c p b e) e b
noncomputable def hu_b (G : puG) (p : Int × Int) : Nat → Int × Int
  | 0 => p
  | m + 1 => hu_s p (hu_b G p m) (hu_e G m)
/-- something is above 0 at all other ends -/
def hu_v (n : Nat) (G : puG) (p : Int × Int) (u v : Int) : Prop := ∀ j, j < 2 * n → hu_e G j = p ∨ 0 < hu_f u v p (hu_e G j)
theorem hu_d0 {p e : Int × Int} (h : hu_d p e ≤ 0) : e = p := by
  unfold hu_d at h; exact Prod.ext (by omega) (by omega)
theorem hu_dz (p : Int × Int) : hu_d p p = 0 := by unfold hu_d; omega
theorem hu_dp (p e : Int × Int) : 0 ≤ hu_d p e := by unfold hu_d; omega
theorem hu_xz1 (p e : Int × Int) : hu_x p p e = 0 := by unfold hu_x; simp
theorem hu_xz2 (p e : Int × Int) : hu_x p e p = 0 := by unfold hu_x; simp
theorem hu_xx (p e : Int × Int) : hu_x p e e = 0 := by unfold hu_x; grind
theorem hu_xs (p e b : Int × Int) : hu_x p e b = -hu_x p b e := by unfold hu_x; grind
theorem hu_fz (u v : Int) (p : Int × Int) : hu_f u v p p = 0 := by unfold hu_f; simp
/-- three ways out of a point -/
theorem hu_3 (u v : Int) (p a b c : Int × Int) : hu_f u v p b * hu_x p a c = hu_f u v p c * hu_x p a b + hu_f u v p a * hu_x p b c := by
  unfold hu_f hu_x; grind
theorem hu_pos {f x : Int} (hf : 0 < f) (h : 0 ≤ f * x) : 0 ≤ x := by
  rcases Int.lt_or_le x 0 with q | q
  · have := Int.mul_neg_of_pos_of_neg hf q; omega
  · exact q
theorem hu_mz {f x : Int} (hf : 0 < f) (h : f * x = 0) : x = 0 := by
  rcases Int.mul_eq_zero.mp h with q | q
  · omega
  · exact q
def hu_g (p b q : Int × Int) : Prop := 0 ≤ hu_x p b q ∧ (hu_x p b q = 0 → hu_d p q ≤ hu_d p b)
theorem hu_step {p b e q : Int × Int} {u v : Int} (hb : b = p ∨ 0 < hu_f u v p b) (he : e = p ∨ 0 < hu_f u v p e) (hq : q = p ∨ 0 < hu_f u v p q) (h : hu_g p b q) : hu_g p (hu_s p b e) q := by
  obtain ⟨h1, h2⟩ := h
  unfold hu_s
  by_cases c : hu_c p b e
  case neg => rw [puE_neg c]; exact ⟨h1, h2⟩
  rw [puE_pos c]
  have fq : 0 ≤ hu_f u v p q := by
    rcases hq with h | h
    · rw [h, hu_fz]; omega
    · omega
  have i3 := hu_3 u v p e b q
  have s1 := hu_xs p e b
  have ep : e ≠ p := by
    rintro rfl
    rcases c with c | ⟨c, d⟩
    · rw [hu_xz2] at c; omega
    · rw [hu_dz] at d; have := hu_dp e b; omega
  have fe : 0 < hu_f u v p e := he.resolve_left ep
  rcases c with c | ⟨c, d⟩
  · have bp : b ≠ p := by
      rintro rfl
      rw [hu_xz1] at c; omega
    have fb : 0 < hu_f u v p b := hb.resolve_left bp
    have m1 := Int.mul_nonneg fq (show 0 ≤ hu_x p e b by omega)
    have m2 := Int.mul_nonneg (show 0 ≤ hu_f u v p e by omega) h1
    refine ⟨hu_pos fb (by omega), fun z => ?_⟩
    rw [z, Int.mul_zero] at i3
    have m3 : hu_f u v p q * hu_x p e b = 0 := by omega
    have q0 : hu_f u v p q = 0 := by
      rcases Int.mul_eq_zero.mp m3 with y | y
      · exact y
      · omega
    have qp : q = p := by
      rcases hq with y | y
      · exact y
      · omega
    rw [qp, hu_dz]; exact hu_dp _ _
  · by_cases bp : b = p
    · subst bp
      have q0 := h2 (hu_xz1 b q)
      rw [hu_dz] at q0
      have qp := hu_d0 q0
      subst qp
      exact ⟨by rw [hu_xz2]; omega, fun _ => by rw [hu_dz]; exact hu_dp _ _⟩
    · have fb : 0 < hu_f u v p b := hb.resolve_left bp
      have m2 := Int.mul_nonneg (show 0 ≤ hu_f u v p e by omega) h1
      have z0 : hu_x p e b = 0 := by omega
      rw [z0, Int.mul_zero, Int.zero_add] at i3
      refine ⟨hu_pos fb (by omega), fun z => ?_⟩
      rw [z, Int.mul_zero] at i3
      have := h2 (hu_mz fe i3.symm)
      omega
theorem hu_self (p b e : Int × Int) : hu_g p (hu_s p b e) e := by
  unfold hu_s
  by_cases c : hu_c p b e
  · rw [puE_pos c]; exact ⟨by rw [hu_xx]; omega, fun _ => Int.le_refl _⟩
  · rw [puE_neg c]
    unfold hu_c at c
    refine ⟨by omega, fun z => ?_⟩
    omega
/-- what the scan from a corner finds: all to the left of it, those in its line not farther -/
theorem hu_scan {n : Nat} {G : puG} {p : Int × Int} {u v : Int} (hv : hu_v n G p u v) : ∀ m, m ≤ 2 * n → (hu_b G p m = p ∨ (0 < hu_f u v p (hu_b G p m) ∧ ∃ k, k < m ∧ hu_b G p m = hu_e G k)) ∧ ∀ j, j < m → hu_g p (hu_b G p m) (hu_e G j)
  | 0, _ => ⟨Or.inl rfl, fun j hj => by omega⟩
  | m + 1, hm => by
    obtain ⟨ih1, ih2⟩ := hu_scan hv m (by omega)
    have hE := hv m (by omega)
    have es : hu_b G p (m + 1) = hu_s p (hu_b G p m) (hu_e G m) := rfl
    rw [es]
    refine ⟨?_, fun j hj => ?_⟩
    · unfold hu_s
      by_cases c : hu_c p (hu_b G p m) (hu_e G m)
      · rw [puE_pos c]
        rcases hE with h | h
        · exact Or.inl h
        · exact Or.inr ⟨h, m, by omega, rfl⟩
      · rw [puE_neg c]
        rcases ih1 with h | ⟨h, k, hk, h2⟩
        · exact Or.inl h
        · exact Or.inr ⟨h, k, by omega, h2⟩
    · by_cases jm : j = m
      · subst jm; exact hu_self _ _ _
      · exact hu_step (u := u) (v := v) (ih1.imp id (fun q => q.1)) hE (hv j (by omega)) (ih2 j (by omega))
theorem hu_abs {w d : Int} (h : 0 ≤ w * d) : ((w + d).natAbs : Int) = (w.natAbs : Int) + (d.natAbs : Int) := by
  rcases Int.lt_trichotomy w 0 with q | q | q
  · have : d ≤ 0 := by
      rcases Int.lt_or_le 0 d with z | z
      · have := Int.mul_neg_of_neg_of_pos q z; omega
      · exact z
    omega
  · omega
  · have : 0 ≤ d := by
      rcases Int.lt_or_le d 0 with z | z
      · have := Int.mul_neg_of_pos_of_neg q z; omega
      · exact z
    omega
/-- in one line, not farther: behind it -/
theorem hu_dot {w1 w2 d1 d2 : Int} (hx : w1 * d2 - w2 * d1 = 0) (hd : ((w1 + d1).natAbs : Int) + ((w2 + d2).natAbs : Int) ≤ (w1.natAbs : Int) + (w2.natAbs : Int)) (hn : ¬ (d1 = 0 ∧ d2 = 0)) : w1 * d1 + w2 * d2 < 0 := by
  apply Classical.byContradiction
  intro c
  have e : (w1 * d1) * (w2 * d2) = (w1 * d2) * (w1 * d2) := by
    have h1 : w2 * d1 = w1 * d2 := by omega
    have h2 : (w1 * d1) * (w2 * d2) = (w1 * d2) * (w2 * d1) := by grind
    rw [h2, h1]
  have sq : 0 ≤ (w1 * d2) * (w1 * d2) := by
    rcases Int.le_total 0 (w1 * d2) with q | q
    · exact Int.mul_nonneg q q
    · exact Int.mul_nonneg_of_nonpos_of_nonpos q q
  have a1 : 0 ≤ w1 * d1 := by
    rcases Int.lt_or_le (w1 * d1) 0 with q | q
    · have z : 0 < w2 * d2 := by omega
      have := Int.mul_neg_of_neg_of_pos q z; omega
    · exact q
  have a2 : 0 ≤ w2 * d2 := by
    rcases Int.lt_or_le (w2 * d2) 0 with q | q
    · have z : 0 < w1 * d1 := by omega
      have := Int.mul_neg_of_pos_of_neg z q; omega
    · exact q
  have b1 := hu_abs a1
  have b2 := hu_abs a2
  omega
/-- the next corner is a corner -/
theorem hu_next {n : Nat} {G : puG} (hv : puVal n G) {p : Int × Int} (hp : hu_in p) {u v : Int} (h : hu_v n G p u v) : ∃ u' v', hu_v n G (hu_b G p (2 * n)) u' v' := by
  obtain ⟨h1, h2⟩ := hu_scan h (2 * n) (Nat.le_refl _)
  rcases h1 with h1 | ⟨-, k, hk, h1⟩
  · exact ⟨u, v, by rw [h1]; exact h⟩
  have ci : hu_in (hu_b G p (2 * n)) := by rw [h1]; exact hu_e_bd hv hk
  generalize hu_b G p (2 * n) = c at *
  refine ⟨-(10000000 * (c.2 - p.2)) - (c.1 - p.1), 10000000 * (c.1 - p.1) - (c.2 - p.2), fun j hj => ?_⟩
  obtain ⟨g1, g2⟩ := h2 j hj
  have ei := hu_e_bd hv hj
  generalize hu_e G j = e at *
  by_cases ec : e = c
  · exact Or.inl ec
  right
  obtain ⟨c1, c2⟩ := c
  obtain ⟨p1, p2⟩ := p
  obtain ⟨e1, e2⟩ := e
  unfold hu_in at hp ci ei
  unfold hu_x at g1 g2
  unfold hu_d at g2
  unfold hu_f
  simp only at *
  have nz : ¬ (e1 - c1 = 0 ∧ e2 - c2 = 0) := fun q => ec (by rw [Prod.mk.injEq]; omega)
  have ex : (c1 - p1) * (e2 - p2) - (c2 - p2) * (e1 - p1) = (c1 - p1) * (e2 - c2) - (c2 - p2) * (e1 - c1) := by grind
  have b1 := pu_mb (v := c1 - p1) (w := e1 - c1) 1998 1998 (by omega) (by omega) (by omega) (by omega)
  have b2 := pu_mb (v := c2 - p2) (w := e2 - c2) 1998 1998 (by omega) (by omega) (by omega) (by omega)
  have goal : (-(10000000 * (c2 - p2)) - (c1 - p1)) * (e1 - c1) + (10000000 * (c1 - p1) - (c2 - p2)) * (e2 - c2) = 10000000 * ((c1 - p1) * (e2 - c2) - (c2 - p2) * (e1 - c1)) - ((c1 - p1) * (e1 - c1) + (c2 - p2) * (e2 - c2)) := by grind
  rw [goal]
  rw [ex] at g1 g2
  rcases Int.lt_or_le 0 ((c1 - p1) * (e2 - c2) - (c2 - p2) * (e1 - c1)) with q | q
  · omega
  · have z : (c1 - p1) * (e2 - c2) - (c2 - p2) * (e1 - c1) = 0 := by omega
    have g3 := g2 z
    have dd := hu_dot (w1 := c1 - p1) (w2 := c2 - p2) (d1 := e1 - c1) (d2 := e2 - c2) z (by rw [show c1 - p1 + (e1 - c1) = e1 - p1 by omega, show c2 - p2 + (e2 - c2) = e2 - p2 by omega]; exact g3) nz
    omega
/-- two corners with the same next one are one -/
theorem hu_inj {n : Nat} {G : puG} {p q : Int × Int} {u v u' v' : Int} (hp : hu_v n G p u v) (hq : hu_v n G q u' v') {i k : Nat} (hi : i < 2 * n) (hk : k < 2 * n) (ei : hu_e G i = p) (ek : hu_e G k = q) (e : hu_b G p (2 * n) = hu_b G q (2 * n)) : p = q := by
  apply Classical.byContradiction
  intro ne
  obtain ⟨p1, p2⟩ := hu_scan hp (2 * n) (Nat.le_refl _)
  obtain ⟨q1, q2⟩ := hu_scan hq (2 * n) (Nat.le_refl _)
  have gp := p2 k hk
  have gq := q2 i hi
  have fp := (hp k hk).resolve_left (by rw [ek]; exact Ne.symm ne)
  have fq := (hq i hi).resolve_left (by rw [ei]; exact ne)
  rw [ek] at gp fp
  rw [ei] at gq fq
  rw [← e] at gq q1
  generalize hu_b G p (2 * n) = c at *
  have cp : c ≠ p := by
    rintro rfl
    have := gp.2 (hu_xz1 c q)
    rw [hu_dz] at this
    exact ne (hu_d0 this).symm
  have cq : c ≠ q := by
    rintro rfl
    have := gq.2 (hu_xz1 c p)
    rw [hu_dz] at this
    exact ne (hu_d0 this)
  have fc := (p1.resolve_left cp).1
  have fc' := (q1.resolve_left cq).1
  obtain ⟨c1, c2⟩ := c
  obtain ⟨x1, x2⟩ := p
  obtain ⟨y1, y2⟩ := q
  obtain ⟨gp1, gp2⟩ := gp
  obtain ⟨gq1, gq2⟩ := gq
  unfold hu_x at *
  unfold hu_d at *
  unfold hu_f at *
  simp only at *
  have s1 : (c1 - x1) * (y2 - x2) - (c2 - x2) * (y1 - x1) = -((x1 - c1) * (y2 - c2) - (x2 - c2) * (y1 - c1)) := by grind
  have s2 : (c1 - y1) * (x2 - y2) - (c2 - y2) * (x1 - y1) = (x1 - c1) * (y2 - c2) - (x2 - c2) * (y1 - c1) := by grind
  have z : (x1 - c1) * (y2 - c2) - (x2 - c2) * (y1 - c1) = 0 := by omega
  have dp := gp2 (by omega)
  have dq := gq2 (by omega)
  obtain ⟨a1, ha1⟩ : ∃ a1, a1 = x1 - c1 := ⟨_, rfl⟩
  obtain ⟨a2, ha2⟩ : ∃ a2, a2 = x2 - c2 := ⟨_, rfl⟩
  obtain ⟨b1, hb1⟩ : ∃ b1, b1 = y1 - c1 := ⟨_, rfl⟩
  obtain ⟨b2, hb2⟩ : ∃ b2, b2 = y2 - c2 := ⟨_, rfl⟩
  rw [← ha1, ← ha2, ← hb1, ← hb2] at z
  rw [show y1 - x1 = b1 - a1 by omega, show y2 - x2 = b2 - a2 by omega] at fp dp
  rw [show x1 - y1 = a1 - b1 by omega, show x2 - y2 = a2 - b2 by omega] at fq dq
  rw [show c1 - x1 = -a1 by omega, show c2 - x2 = -a2 by omega] at fc dp
  rw [show c1 - y1 = -b1 by omega, show c2 - y2 = -b2 by omega] at fc' dq
  -- where a and b point to opposite sides, they are farther off one another
  have opp : ¬ (a1 * b1 ≤ 0 ∧ a2 * b2 ≤ 0) := by
    rintro ⟨o1, o2⟩
    have t1 := hu_abs (w := b1) (d := -a1) (by rw [Int.mul_neg, Int.mul_comm]; omega)
    have t2 := hu_abs (w := b2) (d := -a2) (by rw [Int.mul_neg, Int.mul_comm]; omega)
    have : a1 = 0 ∧ a2 = 0 ∨ b1 = 0 ∧ b2 = 0 := by omega
    rcases this with h | h
    · apply cp; rw [Prod.mk.injEq]; omega
    · apply cq; rw [Prod.mk.injEq]; omega
  -- along a and b, what is above 0
  obtain ⟨al, hal⟩ : ∃ al, al = u' * a1 + v' * a2 := ⟨_, rfl⟩
  obtain ⟨be, hbe⟩ : ∃ be, be = u' * b1 + v' * b2 := ⟨_, rfl⟩
  obtain ⟨ga, hga⟩ : ∃ ga, ga = u * a1 + v * a2 := ⟨_, rfl⟩
  obtain ⟨de, hde⟩ : ∃ de, de = u * b1 + v * b2 := ⟨_, rfl⟩
  have m1 : be * ga = al * de := by
    have i1 : be * ga - al * de = (u' * v - v' * u) * (b1 * a2 - a1 * b2) := by rw [hbe, hga, hal, hde]; grind
    have i2 : b1 * a2 - a1 * b2 = 0 := by
      have : b1 * a2 = a2 * b1 := Int.mul_comm _ _
      omega
    rw [i2, Int.mul_zero] at i1
    omega
  have n1 : be < 0 := by
    have : u' * -b1 + v' * -b2 = -be := by rw [hbe]; grind
    omega
  have n2 : ga < 0 := by
    have : u * -a1 + v * -a2 = -ga := by rw [hga]; grind
    omega
  have n3 : be < al := by
    have : u' * (a1 - b1) + v' * (a2 - b2) = al - be := by rw [hal, hbe]; grind
    omega
  have n4 : ga < de := by
    have : u * (b1 - a1) + v * (b2 - a2) = de - ga := by rw [hga, hde]; grind
    omega
  have bg : 0 < be * ga := Int.mul_pos_of_neg_of_neg n1 n2
  rcases Int.lt_or_le al 0 with q | q
  · -- al < 0, so de < 0
    have dn : de < 0 := by
      rcases Int.lt_or_le de 0 with y | y
      · exact y
      · have := Int.mul_nonpos_of_nonpos_of_nonneg (show al ≤ 0 by omega) y; omega
    have k1 : (-al) * (-de) ≤ (-be) * (-de) := Int.mul_le_mul_of_nonneg_right (by omega) (by omega)
    have k2 : (-be) * (-de) < (-be) * (-ga) := Int.mul_lt_mul_of_pos_left (by omega) (by omega)
    rw [Int.neg_mul_neg, Int.neg_mul_neg] at k1
    rw [Int.neg_mul_neg, Int.neg_mul_neg] at k2
    omega
  · have q0 : 0 < al := by
      rcases Int.lt_or_eq_of_le q with y | y
      · exact y
      · rw [← y, Int.zero_mul] at m1; omega
    apply opp
    have r1 : al * (b1 * a1) = be * (a1 * a1) := by
      have : al * b1 - be * a1 = v' * (a2 * b1 - a1 * b2) := by rw [hal, hbe]; grind
      have z2 : a2 * b1 - a1 * b2 = 0 := by omega
      rw [z2, Int.mul_zero] at this
      have t : al * b1 = be * a1 := by omega
      rw [← Int.mul_assoc, t, Int.mul_assoc]
    have r2 : al * (b2 * a2) = be * (a2 * a2) := by
      have : al * b2 - be * a2 = u' * (a1 * b2 - a2 * b1) := by rw [hal, hbe]; grind
      rw [z, Int.mul_zero] at this
      have t : al * b2 = be * a2 := by omega
      rw [← Int.mul_assoc, t, Int.mul_assoc]
    have sq : ∀ w : Int, 0 ≤ w * w := fun w => by
      rcases Int.le_total 0 w with y | y
      · exact Int.mul_nonneg y y
      · exact Int.mul_nonneg_of_nonpos_of_nonpos y y
    have e1 := Int.mul_nonpos_of_nonpos_of_nonneg (show be ≤ 0 by omega) (sq a1)
    have e2 := Int.mul_nonpos_of_nonpos_of_nonneg (show be ≤ 0 by omega) (sq a2)
    constructor
    · rw [Int.mul_comm]
      rcases Int.lt_or_le 0 (b1 * a1) with y | y
      · have := Int.mul_pos q0 y; omega
      · exact y
    · rw [Int.mul_comm]
      rcases Int.lt_or_le 0 (b2 * a2) with y | y
      · have := Int.mul_pos q0 y; omega
      · exact y
/-- the least end -/
def hu_l (n : Nat) (G : puG) (p : Int × Int) : Prop := (∃ j, j < 2 * n ∧ hu_e G j = p) ∧ ∀ j, j < 2 * n → ¬ puLi (hu_e G j) p
theorem hu_l_u {n : Nat} {G : puG} {p q : Int × Int} (h1 : hu_l n G p) (h2 : hu_l n G q) : p = q := by
  obtain ⟨⟨i, hi, e1⟩, a⟩ := h1
  obtain ⟨⟨k, hk, e2⟩, b⟩ := h2
  have x := a k hk
  have y := b i hi
  rw [e2] at x
  rw [e1] at y
  unfold puLi at x y
  exact Prod.ext (by omega) (by omega)
theorem hu_l_v {n : Nat} {G : puG} (hv : puVal n G) {p : Int × Int} (h : hu_l n G p) : hu_v n G p 2000 1 := by
  obtain ⟨⟨i, hi, e1⟩, a⟩ := h
  intro j hj
  have bi := hu_e_bd hv hi
  have bj := hu_e_bd hv hj
  rw [e1] at bi
  have x := a j hj
  generalize hu_e G j = e at *
  obtain ⟨x1, x2⟩ := e
  obtain ⟨p1, p2⟩ := p
  unfold hu_in at bi bj
  unfold puLi at x
  unfold hu_f
  simp only at *
  by_cases c : (x1, x2) = (p1, p2)
  · exact Or.inl c
  · right
    rw [Prod.mk.injEq] at c
    omega
/-- the corners, one behind another -/
noncomputable def hu_p (n : Nat) (G : puG) (p : Int × Int) : Nat → Int × Int
  | 0 => p
  | i + 1 => hu_b G (hu_p n G p i) (2 * n)
theorem hu_all {n : Nat} {G : puG} (hv : puVal n G) {p : Int × Int} (h : hu_l n G p) : ∀ i, (∃ j, j < 2 * n ∧ hu_e G j = hu_p n G p i) ∧ ∃ u v, hu_v n G (hu_p n G p i) u v
  | 0 => ⟨h.1, 2000, 1, hu_l_v hv h⟩
  | i + 1 => by
    obtain ⟨⟨j, hj, ej⟩, u, v, hu⟩ := hu_all hv h i
    have pin : hu_in (hu_p n G p i) := by rw [← ej]; exact hu_e_bd hv hj
    refine ⟨?_, hu_next hv pin hu⟩
    rcases (hu_scan hu (2 * n) (Nat.le_refl _)).1 with q | ⟨-, k, hk, q⟩
    · exact ⟨j, hj, ej.trans q.symm⟩
    · exact ⟨k, hk, q.symm⟩
theorem hu_back {n : Nat} {G : puG} (hv : puVal n G) {p : Int × Int} (h : hu_l n G p) : ∃ i, i < 2 * n ∧ hu_p n G p (i + 1) = p := by
  have al := hu_all hv h
  obtain ⟨i, k, hik, hk, e⟩ := fb_twice (m := 2 * n) (n := 2 * n + 1) (f := fun i => Classical.choose (al i).1) (fun i _ => (Classical.choose_spec (al i).1).1) (by omega)
  have e2 : hu_p n G p i = hu_p n G p k := by rw [← (Classical.choose_spec (al i).1).2, ← (Classical.choose_spec (al k).1).2, e]
  have down : ∀ i k, i < k → hu_p n G p i = hu_p n G p k → hu_p n G p 0 = hu_p n G p (k - i) := by
    intro i
    induction i with
    | zero => intro k _ e; exact e
    | succ i ih =>
      intro k hk e
      obtain ⟨k', rfl⟩ : ∃ k', k = k' + 1 := ⟨k - 1, by omega⟩
      obtain ⟨⟨j, hj, ej⟩, u, v, hu⟩ := al i
      obtain ⟨⟨j', hj', ej'⟩, u', v', hu'⟩ := al k'
      have := ih k' (by omega) (hu_inj hu hu' hj hj' ej ej' e)
      rw [show k' + 1 - (i + 1) = k' - i by omega]
      exact this
  have e3 := down i k hik e2
  refine ⟨k - i - 1, by omega, ?_⟩
  rw [show k - i - 1 + 1 = k - i by omega, ← e3]
  rfl
