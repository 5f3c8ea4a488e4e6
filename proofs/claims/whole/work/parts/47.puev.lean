/-! PURE: rows of points in their order -/
def puSo (N : Nat) (P : Nat → puP) : Prop := ∀ i j, i < j → j < N → puLt (P i) (P j)
def puMe (N : Nat) (P : Nat → puP) (p : puP) : Prop := ∃ k, k < N ∧ P k = p
theorem puSo_inj {N : Nat} {P : Nat → puP} (h : puSo N P) {i j : Nat} (hi : i < N) (hj : j < N) (e : P i = P j) : i = j := by
  rcases Nat.lt_trichotomy i j with q | q | q
  · have := h i j q hj; rw [e] at this; exact absurd this puLt_irr
  · exact q
  · have := h j i q hi; rw [e] at this; exact absurd this puLt_irr
theorem puSo_lt {N : Nat} {P : Nat → puP} (h : puSo N P) {i j : Nat} (hi : i < N) (hj : j < N) : puLt (P i) (P j) ↔ i < j := by
  refine ⟨fun q => ?_, fun q => h i j q hj⟩
  rcases Nat.lt_trichotomy i j with r | r | r
  · exact r
  · subst r; exact absurd q puLt_irr
  · exact absurd (puLt_tr q (h j i r hi)) puLt_irr
theorem puSo_le {N : Nat} {P : Nat → puP} (h : puSo N P) {i j : Nat} (hi : i < N) (hj : j < N) : puLe (P i) (P j) ↔ i ≤ j := by
  rw [← puLe_not, puSo_lt h hj hi]; omega
/-- two rows of the same points in order are one -/
theorem puSo_uniq {N M : Nat} {P Q : Nat → puP} (h1 : puSo N P) (h2 : puSo M Q) (h : ∀ p, puMe N P p ↔ puMe M Q p) : N = M ∧ ∀ k, k < N → P k = Q k := by
  have key : ∀ {N M : Nat} {P Q : Nat → puP}, puSo N P → puSo M Q → (∀ p, puMe N P p ↔ puMe M Q p) → ∀ m k, k < m → k < N → k < M ∧ P k = Q k := by
    intro N M P Q h1 h2 h m
    induction m with
    | zero => intro k hk; omega
    | succ m ih =>
      intro k hk hN
      obtain ⟨j, hj, ej⟩ := (h (P k)).mp ⟨k, hN, rfl⟩
      rcases Nat.lt_trichotomy j k with q | q | q
      · have := (ih j (by omega) (by omega)).2
        have g := h1 j k q hN
        rw [this, ej] at g; exact absurd g puLt_irr
      · subst q; exact ⟨hj, ej.symm⟩
      · obtain ⟨i, hi, ei⟩ := (h (Q k)).mpr ⟨k, by omega, rfl⟩
        have g := h2 k j q hj
        rw [ej, ← ei] at g
        have hik := (puSo_lt h1 hi hN).mp g
        obtain ⟨hiM, e⟩ := ih i (by omega) hi
        have := h2 i k hik (by omega)
        rw [← e, ei] at this; exact absurd this puLt_irr
  have a := key h1 h2 h
  have b := key h2 h1 (fun p => (h p).symm)
  have e : N = M := by
    rcases Nat.lt_trichotomy N M with q | q | q
    · exact absurd (b (N + 1) N (by omega) q).1 (by omega)
    · exact q
    · exact absurd (a (M + 1) M (by omega) q).1 (by omega)
  exact ⟨e, fun k hk => (a (k + 1) k (by omega) hk).2⟩
/-- the number of those ahead of a point -/
noncomputable def puIx (N : Nat) (P : Nat → puP) (p : puP) : Nat := puN (fun k => puLt (P k) p) N
theorem puIx_le (N : Nat) (P : Nat → puP) (p : puP) : puIx N P p ≤ N := puN_le _ _
theorem puN_all {P : Nat → Prop} {n : Nat} (h : ∀ k, k < n → P k) : puN P n = n := by
  induction n with
  | zero => rfl
  | succ n ih => rw [puN_s, puE_pos (h n (by omega)), ih (fun k hk => h k (by omega))]
theorem puIx_u {N : Nat} {P : Nat → puP} {p : puP} {j : Nat} (hj : j ≤ N) (h1 : ∀ k, k < j → puLt (P k) p) (h2 : ∀ k, j ≤ k → k < N → ¬ puLt (P k) p) : puIx N P p = j := by
  unfold puIx
  rw [puN_out hj h2, puN_all h1]
theorem puIx_lt {N : Nat} {P : Nat → puP} (h : puSo N P) {p : puP} {k : Nat} (hk : k < N) : puLt (P k) p ↔ k < puIx N P p := by
  have ex : ∃ j, j ≤ N ∧ (∀ k, k < j → puLt (P k) p) ∧ (∀ k, j ≤ k → k < N → ¬ puLt (P k) p) := by
    clear hk
    induction N with
    | zero => exact ⟨0, Nat.le_refl _, fun k hk => by omega, fun k _ hk => by omega⟩
    | succ N ih =>
      obtain ⟨j, hj, a, b⟩ := ih (fun i j hij hj => h i j hij (by omega))
      by_cases q : puLt (P N) p
      · refine ⟨N + 1, Nat.le_refl _, fun k hk => ?_, fun k h1 h2 => by omega⟩
        by_cases e : k = N
        · subst e; exact q
        · exact puLt_tr (h k N (by omega) (by omega)) q
      · refine ⟨j, by omega, a, fun k h1 h2 => ?_⟩
        by_cases e : k = N
        · subst e; exact q
        · exact b k h1 (by omega)
  obtain ⟨j, hj, a, b⟩ := ex
  rw [puIx_u hj a b]
  refine ⟨fun q => ?_, a k⟩
  apply Classical.byContradiction; intro c
  exact b k (by omega) hk q
theorem puIx_me {N : Nat} {P : Nat → puP} (h : puSo N P) {p : puP} : puMe N P p ↔ puIx N P p < N ∧ P (puIx N P p) = p := by
  refine ⟨fun ⟨k, hk, e⟩ => ?_, fun q => ⟨_, q.1, q.2⟩⟩
  have : puIx N P p = k := puIx_u (Nat.le_of_lt hk) (fun i hi => by rw [← e]; exact h i k hi hk) (fun i hi hi2 => by rw [← e, puSo_lt h hi2 hk]; omega)
  rw [this]; exact ⟨hk, e⟩
theorem puIx_at {N : Nat} {P : Nat → puP} (h : puSo N P) {k : Nat} (hk : k < N) : puIx N P (P k) = k :=
  puIx_u (Nat.le_of_lt hk) (fun i hi => h i k hi hk) (fun i hi hi2 => by rw [puSo_lt h hi2 hk]; omega)
/-- a row with one put in -/
def puSh {α : Type} (f : Nat → α) (place size : Nat) (v : α) : Nat → α := fun j => if j = place then v else if place < j ∧ j ≤ size then f (j - 1) else f j
theorem puSh_at {α : Type} {f : Nat → α} {place size : Nat} {v : α} : puSh f place size v place = v := if_pos rfl
theorem puSh_lo {α : Type} {f : Nat → α} {place size : Nat} {v : α} {j : Nat} (h : j < place) : puSh f place size v j = f j := by unfold puSh; rw [if_neg (by omega), if_neg (by omega)]
theorem puSh_hi {α : Type} {f : Nat → α} {place size : Nat} {v : α} {j : Nat} (h : place < j) (h2 : j ≤ size) : puSh f place size v j = f (j - 1) := by unfold puSh; rw [if_neg (by omega), if_pos ⟨h, h2⟩]
theorem puIns_so {N : Nat} {P : Nat → puP} {p : puP} (h : puSo N P) (hn : ¬ puMe N P p) : puSo (N + 1) (puSh P (puIx N P p) N p) := by
  have hle := puIx_le N P p
  have lt := fun {k} hk => @puIx_lt N P h p k hk
  have gt : ∀ {k}, k < N → puIx N P p ≤ k → puLt p (P k) := by
    intro k hk hge
    rcases puLt_tri (P k) p with q | q | q
    · exact absurd ((lt hk).mp q) (by omega)
    · exact absurd ⟨k, hk, q⟩ hn
    · exact q
  generalize puIx N P p = c at *
  intro i j hij hj
  by_cases a : j < c
  · rw [puSh_lo (by omega), puSh_lo a]; exact h i j hij (by omega)
  · by_cases b : j = c
    · subst b; rw [puSh_at, puSh_lo hij]; exact (lt (by omega)).mpr hij
    · rw [puSh_hi (j := j) (by omega) (by omega)]
      by_cases d : i < c
      · rw [puSh_lo d]
        by_cases e : i = j - 1
        · omega
        · exact h i (j - 1) (by omega) (by omega)
      · by_cases e : i = c
        · subst e; rw [puSh_at]; exact gt (by omega) (by omega)
        · rw [puSh_hi (by omega) (by omega)]; exact h (i - 1) (j - 1) (by omega) (by omega)
theorem puIns_me {N : Nat} {P : Nat → puP} {p q : puP} {c : Nat} (hc : c ≤ N) : puMe (N + 1) (puSh P c N p) q ↔ q = p ∨ puMe N P q := by
  constructor
  · rintro ⟨k, hk, e⟩
    by_cases a : k < c
    · rw [puSh_lo a] at e; exact Or.inr ⟨k, by omega, e⟩
    · by_cases b : k = c
      · subst b; rw [puSh_at] at e; exact Or.inl e.symm
      · rw [puSh_hi (by omega) (by omega)] at e; exact Or.inr ⟨k - 1, by omega, e⟩
  · rintro (e | ⟨k, hk, e⟩)
    · exact ⟨c, by omega, by rw [puSh_at, e]⟩
    · by_cases a : k < c
      · exact ⟨k, by omega, by rw [puSh_lo a]; exact e⟩
      · exact ⟨k + 1, by omega, by rw [puSh_hi (by omega) (by omega)]; exact e⟩
/-- the numbers of a row of points -/
def puEvs (N : Nat) (P : Nat → puP) (x y d : Nat → Int64) : Prop := ∀ k, k < N → puRep (x k) (y k) (d k) (P k)
theorem puEvs_ins {N : Nat} {P : Nat → puP} {x y d : Nat → Int64} {p : puP} {a0 a1 a2 : Int64} {c : Nat} (h : puEvs N P x y d) (hr : puRep a0 a1 a2 p) (hc : c ≤ N) : puEvs (N + 1) (puSh P c N p) (puSh x c N a0) (puSh y c N a1) (puSh d c N a2) := by
  intro k hk
  by_cases a : k < c
  · rw [puSh_lo a, puSh_lo a, puSh_lo a, puSh_lo a]; exact h k (by omega)
  · by_cases b : k = c
    · subst b; rw [puSh_at, puSh_at, puSh_at, puSh_at]; exact hr
    · rw [puSh_hi (by omega) (by omega), puSh_hi (by omega) (by omega), puSh_hi (by omega) (by omega), puSh_hi (by omega) (by omega)]; exact h (k - 1) (by omega)
/-- two points held against one another -/
noncomputable def puCp (p q : puP) : Int := puE (puLt p q) (-1) (puE (p = q) 0 1)
theorem puCp_lt {p q : puP} : puCp p q < 0 ↔ puLt p q := by
  unfold puCp
  by_cases h : puLt p q
  · rw [puE_pos h]; exact ⟨fun _ => h, fun _ => by decide⟩
  · rw [puE_neg h]
    by_cases h2 : p = q
    · rw [puE_pos h2]; exact ⟨fun q => absurd q (by decide), fun q => absurd q h⟩
    · rw [puE_neg h2]; exact ⟨fun q => absurd q (by decide), fun q => absurd q h⟩
theorem puCp_eq {p q : puP} : puCp p q = 0 ↔ p = q := by
  unfold puCp
  by_cases h : puLt p q
  · rw [puE_pos h]; exact ⟨fun q => absurd q (by decide), fun q => by subst q; exact absurd h puLt_irr⟩
  · rw [puE_neg h]
    by_cases h2 : p = q
    · rw [puE_pos h2]; exact ⟨fun _ => h2, fun _ => rfl⟩
    · rw [puE_neg h2]; exact ⟨fun q => absurd q (by decide), fun q => absurd q h2⟩
theorem puCp_bd (p q : puP) : -1 ≤ puCp p q ∧ puCp p q ≤ 1 := by
  unfold puCp
  by_cases h : puLt p q
  · rw [puE_pos h]; decide
  · rw [puE_neg h]
    by_cases h2 : p = q
    · rw [puE_pos h2]; decide
    · rw [puE_neg h2]; decide
theorem pg_cmp {X Y D E : Int} {p q : Rat} (hD : 0 < D) (hE : 0 < E) (h1 : (X : Rat) = p * (D : Rat)) (h2 : (Y : Rat) = q * (E : Rat)) : (X * E < Y * D ↔ p < q) ∧ (X * E = Y * D ↔ p = q) := by
  have d : 0 < (D : Rat) := Rat.intCast_pos.mpr hD
  have e : 0 < (E : Rat) := Rat.intCast_pos.mpr hE
  have de := Rat.mul_pos d e
  have e1 : ((X * E : Int) : Rat) = p * ((D : Rat) * (E : Rat)) := by rw [Rat.intCast_mul, h1]; grind
  have e2 : ((Y * D : Int) : Rat) = q * ((D : Rat) * (E : Rat)) := by rw [Rat.intCast_mul, h2]; grind
  constructor
  · rw [← Rat.intCast_lt_intCast, e1, e2, Rat.mul_lt_mul_right de]
  · rw [← Rat.intCast_inj, e1, e2]
    refine ⟨fun k => ?_, fun k => by rw [k]⟩
    have : (p - q) * ((D : Rat) * (E : Rat)) = 0 := by grind
    have := (Rat.mul_eq_zero.mp this).resolve_right (by grind)
    grind
theorem puRep_bd {X D E : Int} (hD : 0 < D ∧ D ≤ 7984008) (hE : 0 < E ∧ E ≤ 7984008) (hX : -(999 * D) ≤ X ∧ X ≤ 999 * D) : -63680000000000000000 ≤ X * E ∧ X * E ≤ 63680000000000000000 := by
  have := pu_mb (v := X) (w := E) 7976023992 7984008 (by omega) (by omega) (by omega) (by omega)
  omega
theorem puRep_bd2 {X D E : Int} (hD : 0 < D ∧ D ≤ 7984008) (hE : 0 < E ∧ E ≤ 7984008) (hX : -(999 * D) ≤ X ∧ X ≤ 999 * D) : -64000000000000000 ≤ X * E ∧ X * E ≤ 64000000000000000 := by
  have := pu_mb (v := X) (w := E) 7976023992 7984008 (by omega) (by omega) (by omega) (by omega)
  omega
theorem p_lcompare {a b : Int} (ha : -9000000000000000000 ≤ a ∧ a ≤ 9000000000000000000) (hb : -9000000000000000000 ≤ b ∧ b ≤ 9000000000000000000) : fJ13_compare_74951 (puJ a) (puJ b) = some (puI (if a < b then -1 else if a = b then 0 else 1)) := by
  unfold fJ13_compare_74951
  simp (disch := omega) only [puJ_le, puJ_eq, puI_lit, puI_neg]
  by_cases h : a < b
  · rw [xsBr_neg (by omega), if_pos h]
  · rw [xsBr_pos (by omega), if_neg h]
    by_cases h2 : a = b
    · rw [xsBr_pos h2, if_pos h2]
    · rw [xsBr_neg h2, if_neg h2]
theorem p_compare {N : Nat} {P : Nat → puP} {x y d : Nat → Int64} {p : puP} {a0 a1 a2 : Int64} (h : puEvs N P x y d) (hr : puRep a0 a1 a2 p) {k : Nat} (hk : k < N) (hN : N ≤ 324) : fX1_compare x y d (puI (k : Int)) a0 a1 a2 = some (puI (puCp (P k) p)) := by
  obtain ⟨X, Y, D, ex, ey, ed, hD, ⟨q1, q2⟩, bX, bY⟩ := h k hk
  obtain ⟨X', Y', D', rfl, rfl, rfl, hD', ⟨r1, r2⟩, bX', bY'⟩ := hr
  obtain ⟨g1, g2⟩ := pg_cmp hD.1 hD'.1 q1 r1
  obtain ⟨g3, g4⟩ := pg_cmp hD.1 hD'.1 q2 r2
  have b1 := puRep_bd2 hD hD' bX
  have b2 := puRep_bd2 hD hD' bY
  have b3 := puRep_bd2 hD' hD bX'
  have b4 := puRep_bd2 hD' hD bY'
  unfold fX1_compare
  simp (disch := omega) only [xsCk_in, puI_clN, ex, ey, ed, puJ_mul]
  rw [p_lcompare (by omega) (by omega), p_lcompare (by omega) (by omega)]
  simp only [xsBd_sm]
  generalize X * D' = u1 at *
  generalize X' * D = u2 at *
  generalize Y * D' = u3 at *
  generalize Y' * D = u4 at *
  by_cases c1 : u1 < u2
  · rw [if_pos c1, xsBr_neg (by decide)]
    have : puLt (P k) p := Or.inl (g1.mp c1)
    unfold puCp; rw [puE_pos this]
  · rw [if_neg c1]
    by_cases c2 : u1 = u2
    · rw [if_pos c2, xsBr_pos (by decide)]
      have ep := g2.mp c2
      by_cases c3 : u3 < u4
      · rw [if_pos c3]
        have : puLt (P k) p := Or.inr ⟨ep, g3.mp c3⟩
        unfold puCp; rw [puE_pos this]
      · rw [if_neg c3]
        have n1 : ¬ puLt (P k) p := by
          rintro (q | ⟨-, q⟩)
          · exact c1 (g1.mpr q)
          · exact c3 (g3.mpr q)
        by_cases c4 : u3 = u4
        · rw [if_pos c4]
          have : P k = p := Prod.ext ep (g4.mp c4)
          unfold puCp; rw [puE_neg n1, puE_pos this]
        · rw [if_neg c4]
          have : ¬ P k = p := fun q => c4 (g4.mpr (by rw [q]))
          unfold puCp; rw [puE_neg n1, puE_neg this]
    · rw [if_neg c2, xsBr_neg (by decide)]
      have n1 : ¬ puLt (P k) p := by
        rintro (q | ⟨q, -⟩)
        · exact c1 (g1.mpr q)
        · exact c2 (g2.mpr q)
      have : ¬ P k = p := fun q => c2 (g2.mpr (by rw [q]))
      unfold puCp; rw [puE_neg n1, puE_neg this]
theorem pu_bt_nI (m i : Nat) (hi : i < 32) : bt (nI m) i = m.testBit i := by
  show (BitVec.ofNat 32 m).getLsbD i = _
  rw [BitVec.getLsbD_ofNat, decide_eq_true hi, Bool.true_and]
theorem pu_hf {m : Nat} (h : m < 2147483648) : puI (m : Int) >>> ((1 : Int32) &&& 31) = puI ((m / 2 : Nat) : Int) := by
  rw [← puI_nI, ← puI_nI]
  apply b_ext
  intro i hi
  have := b_sshr 1 (by omega) (nI m) hi
  rw [show nI 1 = (1 : Int32) by rfl] at this
  rw [this, pu_bt_nI _ _ hi]
  have t31 : m.testBit 31 = false := Nat.testBit_lt_two_pow (by omega)
  have e : (m / 2).testBit i = m.testBit (i + 1) := by rw [Nat.testBit_succ]
  rw [e]
  by_cases c : 1 + i < 32
  · rw [if_pos c, pu_bt_nI _ _ c, Nat.add_comm]
  · rw [if_neg c, pu_bt_nI _ _ (by omega), t31]
    have : i = 31 := by omega
    subst this
    exact (Nat.testBit_lt_two_pow (by omega)).symm
theorem puI_s1 (k : Nat) : puI (k : Int) + (1 : Int32) = puI ((k + 1 : Nat) : Int) := puI_s k
theorem p_placeOf {N : Nat} {P : Nat → puP} {x y d : Nat → Int64} {p : puP} {a0 a1 a2 : Int64} (h : puEvs N P x y d) (hs : puSo N P) (hr : puRep a0 a1 a2 p) (hN : N ≤ 324) : fX1_placeOf x y d (puI (N : Int)) a0 a1 a2 = some (puI (puIx N P p : Int)) := by
  have hle := puIx_le N P p
  have key : puOk (xsWh (fun s4 => fX1_placeOf_L12 x y d a0 a1 a2 s4.1 s4.2.1 s4.2.2) ((0 : Int32), puI (N : Int), (0 : Int32))) (fun r => r = puI (puIx N P p : Int)) := by
    refine puFor 9 (fun k s => ∃ lo hi : Nat, s = (puI (lo : Int), puI (hi : Int), puI (k : Int)) ∧ lo ≤ puIx N P p ∧ puIx N P p ≤ hi ∧ hi ≤ N ∧ hi - lo < 2 ^ (9 - k)) _ ?_ ?_ 0 _ (Nat.zero_le _) ⟨0, N, rfl, Nat.zero_le _, hle, Nat.le_refl _, by show N - 0 < 512; omega⟩
    · rintro k s hk ⟨lo, hi, rfl, h1, h2, h3, h4⟩
      simp only [fX1_placeOf_L12]
      rw [xsBr_neg (by rw [puI_lit, puI_le (by omega) (by omega) (by omega) (by omega)]; omega)]
      by_cases c : hi ≤ lo
      · right
        refine ⟨_, xsBr_pos ((puI_leN (by omega) (by omega)).mpr c), ?_⟩
        rw [show lo = puIx N P p by omega]
      · left
        rw [xsBr_neg (fun q => c ((puI_leN (by omega) (by omega)).mp q))]
        simp only [xsLt_eq]
        rw [puI_add, show (lo : Int) + (hi : Int) = ((lo + hi : Nat) : Int) by omega, pu_hf (by omega), p_compare h hr (k := (lo + hi) / 2) (by omega) hN]
        simp only [xsBd_sm]
        have cb := puCp_bd (P ((lo + hi) / 2)) p
        have e2 : 2 ^ (9 - k) = 2 * 2 ^ (9 - (k + 1)) := by rw [← Nat.pow_succ', show (9 - (k + 1)).succ = 9 - k by omega]
        have il := @puIx_lt N P hs p ((lo + hi) / 2) (by omega)
        by_cases q : puLt (P ((lo + hi) / 2)) p
        · rw [xsBr_neg (by rw [show (0 : Int32) = puI 0 by rfl, puI_le (by omega) (by omega) (by omega) (by omega)]; have := puCp_lt.mpr q; omega)]
          simp only [xsBd_sm]
          refine ⟨_, rfl, (lo + hi) / 2 + 1, hi, ?_, by have := il.mp q; omega, h2, h3, by omega⟩
          rw [puI_s1, puI_s1]
        · rw [xsBr_pos (by rw [show (0 : Int32) = puI 0 by rfl, puI_le (by omega) (by omega) (by omega) (by omega)]; have : ¬ puCp (P ((lo + hi) / 2)) p < 0 := fun z => q (puCp_lt.mp z); omega)]
          simp only [xsBd_sm]
          refine ⟨_, rfl, lo, (lo + hi) / 2, ?_, h1, by have : ¬ (lo + hi) / 2 < puIx N P p := fun z => q (il.mpr z); omega, by omega, by omega⟩
          rw [puI_s1]
    · rintro s ⟨lo, hi, rfl, h1, h2, h3, h4⟩
      have : hi - lo < 1 := h4
      simp only [fX1_placeOf_L12]
      rw [xsBr_neg (by rw [puI_lit, puI_le (by omega) (by omega) (by omega) (by omega)]; omega), xsBr_pos ((puI_leN (by omega) (by omega)).mpr (by omega))]
      exact ⟨_, rfl, by rw [show lo = puIx N P p by omega]⟩
  obtain ⟨r, e, rfl⟩ := key
  unfold fX1_placeOf
  rw [xsBd_some e]; rfl
/-- a row while it moves on to make room -/
def puMv {α : Type} (f : Nat → α) (k size : Nat) : Nat → α := fun j => if k < j ∧ j ≤ size then f (j - 1) else f j
theorem puMv_0 {α : Type} (f : Nat → α) (size : Nat) : puMv f size size = f := by
  funext j; unfold puMv; rw [if_neg (by omega)]
theorem puMv_sL {f : Nat → Int64} {k size : Nat} (h : k < size) : vp_updL (puMv f (k + 1) size) (k + 1) (puMv f (k + 1) size k) = puMv f k size := by
  funext j; unfold vp_updL puMv
  by_cases e : j = k + 1
  · subst e; rw [if_pos rfl, if_neg (by omega), if_pos (by omega)]; rfl
  · rw [if_neg e]
    by_cases c : k + 1 < j ∧ j ≤ size
    · rw [if_pos c, if_pos (by omega)]
    · rw [if_neg c, if_neg (by omega)]
theorem puMv_sI {f : Nat → Int32} {k size : Nat} (h : k < size) : upd (puMv f (k + 1) size) (k + 1) (puMv f (k + 1) size k) = puMv f k size := by
  funext j; unfold upd puMv
  by_cases e : j = k + 1
  · subst e; rw [if_pos rfl, if_neg (by omega), if_pos (by omega)]; rfl
  · rw [if_neg e]
    by_cases c : k + 1 < j ∧ j ≤ size
    · rw [if_pos c, if_pos (by omega)]
    · rw [if_neg c, if_neg (by omega)]
theorem puMv_eL {f : Nat → Int64} {k size : Nat} {v : Int64} : vp_updL (puMv f k size) k v = puSh f k size v := by
  funext j; unfold vp_updL puMv puSh; rfl
theorem puMv_eI {f : Nat → Int32} {k size : Nat} {v : Int32} : upd (puMv f k size) k v = puSh f k size v := by
  funext j; unfold upd puMv puSh; rfl
theorem p_insert {N : Nat} {P : Nat → puP} {x y d : Nat → Int64} {p : puP} {a0 a1 a2 : Int64} (h : puEvs N P x y d) (hs : puSo N P) (hr : puRep a0 a1 a2 p) (hN : N < 324) :
    puOk (fX1_insert x y d (puI (N : Int)) a0 a1 a2) (fun o => ∃ M Q, o.2.2.2 = puI (M : Nat) ∧ puEvs M Q o.1 o.2.1 o.2.2.1 ∧ puSo M Q ∧ (∀ q, puMe M Q q ↔ q = p ∨ puMe N P q) ∧ M ≤ N + 1) := by
  have hle := puIx_le N P p
  have hme := @puIx_me N P hs p
  unfold fX1_insert
  rw [p_placeOf h hs hr (by omega)]
  simp only [xsBd_sm]
  have e1 : xsBr (puI (N : Int) ≤ puI (puIx N P p : Int)) (some (0 : Int32)) (xsBd (fX1_compare x y d (puI (puIx N P p : Int)) a0 a1 a2) (fun o35 => xsBr (o35 = 0) (some (1 : Int32)) (some (0 : Int32)))) = some (puB (puMe N P p)) := by
    by_cases c : puIx N P p < N
    · rw [xsBr_neg (by rw [puI_leN (by omega) (by omega)]; omega), p_compare h hr c (by omega), xsBd_sm, xsBr_10]
      have cb := puCp_bd (P (puIx N P p)) p
      refine congrArg some (puB_iff ?_)
      rw [show (0 : Int32) = puI 0 by rfl, puI_eq (by omega) (by omega) (by omega) (by omega), puCp_eq, hme]
      exact ⟨fun q => ⟨c, q⟩, fun q => q.2⟩
    · rw [xsBr_pos (by rw [puI_leN (by omega) (by omega)]; omega), puB_neg (fun q => c (hme.mp q).1)]
  rw [e1]
  simp only [xsBd_sm]
  unfold fX1_insert_J37
  by_cases c : puMe N P p
  · rw [xsBr_neg (by rw [puB_pos c]; decide)]
    refine puOk_some ⟨N, P, rfl, h, hs, fun q => ⟨Or.inr, fun z => z.elim (fun e => e ▸ c) id⟩, by omega⟩
  · rw [xsBr_pos (by rw [puB_neg c]), xsBr_pos (by rw [puI_lit, puI_lt (by omega) (by omega) (by omega) (by omega)]; omega)]
    have kl : xsWh (fun s8 => fX1_insert_L61 (puI (puIx N P p : Int)) s8.1 s8.2.1 s8.2.2.1 s8.2.2.2) (puI ((N - 0 : Nat) : Int), puMv x (N - 0) N, puMv y (N - 0) N, puMv d (N - 0) N) = some (puMv x (puIx N P p) N, puMv y (puIx N P p) N, puMv d (puIx N P p) N) := by
      refine puForS (N - puIx N P p) (fun i => (puI ((N - i : Nat) : Int), puMv x (N - i) N, puMv y (N - i) N, puMv d (N - i) N)) _ ?_ ?_
      · intro i hi
        obtain ⟨m, hm⟩ : ∃ m, N - i = m + 1 := ⟨N - i - 1, by omega⟩
        have hm2 : N - (i + 1) = m := by omega
        simp only [fX1_insert_L61, hm, hm2]
        rw [xsBr_neg (by rw [puI_leN (by omega) (by omega)]; omega)]
        have es : puI ((m + 1 : Nat) : Int) - (1 : Int32) = puI (m : Int) := by
          rw [show (1 : Int32) = puI 1 by rfl, puI_sub, show ((m + 1 : Nat) : Int) - 1 = (m : Int) by omega]
        have es2 : puI ((m + 1 : Nat) : Int) + (-1 : Int32) = puI (m : Int) := by
          rw [show (-1 : Int32) = puI (-1) by rfl, puI_add, show ((m + 1 : Nat) : Int) + -1 = (m : Int) by omega]
        simp only [es, es2]
        simp (disch := omega) only [xsCk_in, xsLt_eq, puI_clN]
        rw [puMv_sL (by omega), puMv_sL (by omega), puMv_sL (by omega)]
      · simp only [fX1_insert_L61]
        rw [show N - (N - puIx N P p) = puIx N P p by omega, xsBr_pos (by rw [puI_leN (by omega) (by omega)]; omega)]
    rw [Nat.sub_zero, puMv_0, puMv_0, puMv_0] at kl
    rw [xsBd_some kl]
    simp only [fX1_insert_J122]
    simp (disch := omega) only [xsCk_in, xsLt_eq, puI_clN]
    rw [puMv_eL, puMv_eL, puMv_eL, show (1 : Int32) = puI 1 by rfl, puI_s]
    exact puOk_some ⟨N + 1, puSh P (puIx N P p) N p, rfl, puEvs_ins h hr hle, puIns_so hs c, fun q => puIns_me hle, Nat.le_refl _⟩
