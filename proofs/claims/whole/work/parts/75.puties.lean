/-! PURE: who is tied, the parts, the steps -/
theorem puN_lt_sub {P Q : Nat → Prop} {n i : Nat} (h : ∀ k, k < n → P k → Q k) (hi : i < n) (h1 : Q i) (h2 : ¬ P i) : puN P n < puN Q n := by
  rw [puN_split (P := Q) (Q := P) (n := n)]
  have e : puN (fun k => Q k ∧ P k) n = puN P n := puN_c (fun k hk => ⟨fun q => q.2, fun q => ⟨h k hk q, q⟩⟩)
  have p : 0 < puN (fun k => Q k ∧ ¬ P k) n := puN_pos.mpr ⟨i, hi, h1, h2⟩
  omega
def tz_t (n : Nat) (G : puG) (s i : Nat) : Prop := i < n ∧ s ≠ i ∧ puKd (G s) (G i) ≠ 0
def tz_l (n : Nat) (G : puG) (a : Nat) : Nat → Nat → Prop
  | 0, i => i = a
  | k + 1, i => tz_l n G a k i ∨ ∃ s, s < n ∧ tz_l n G a k s ∧ tz_t n G s i
theorem tz_n {n : Nat} {G : puG} {a : Nat} (ha : a < n) : ∀ k i, tz_l n G a k i → i < n
  | 0, i, h => by have e : i = a := h; omega
  | k + 1, i, h => by
    rcases h with h | ⟨s, -, -, h, -⟩
    · exact tz_n ha k i h
    · exact h
def tz_st (n : Nat) (G : puG) (a k : Nat) : Prop := ∀ i, tz_l n G a k i ↔ tz_l n G a (k + 1) i
theorem tz_stay {n : Nat} {G : puG} {a k : Nat} (h : tz_st n G a k) : ∀ j i, tz_l n G a (k + j) i ↔ tz_l n G a k i
  | 0, i => Iff.rfl
  | j + 1, i => by
    have ih := tz_stay h j
    rw [h i]
    show (tz_l n G a (k + j) i ∨ ∃ s, s < n ∧ tz_l n G a (k + j) s ∧ tz_t n G s i) ↔ (tz_l n G a k i ∨ ∃ s, s < n ∧ tz_l n G a k s ∧ tz_t n G s i)
    rw [ih i]
    constructor
    · rintro (q | ⟨s, h1, h2, h3⟩)
      · exact Or.inl q
      · exact Or.inr ⟨s, h1, (ih s).mp h2, h3⟩
    · rintro (q | ⟨s, h1, h2, h3⟩)
      · exact Or.inl q
      · exact Or.inr ⟨s, h1, (ih s).mpr h2, h3⟩
theorem tz_up {n : Nat} {G : puG} {a : Nat} (ha : a < n) : ∀ k, (∀ j, j < k → ¬ tz_st n G a j) → k + 1 ≤ puN (tz_l n G a k) n
  | 0, _ => by
    have : 0 < puN (tz_l n G a 0) n := puN_pos.mpr ⟨a, ha, rfl⟩
    omega
  | k + 1, h => by
    have ih := tz_up ha k (fun j hj => h j (by omega))
    have hk := h k (by omega)
    obtain ⟨i, hi, hi2⟩ : ∃ i, tz_l n G a (k + 1) i ∧ ¬ tz_l n G a k i := by
      apply Classical.byContradiction
      intro q
      exact hk (fun i => ⟨Or.inl, fun z => Classical.byContradiction (fun y => q ⟨i, z, y⟩)⟩)
    have := puN_lt_sub (P := tz_l n G a k) (Q := tz_l n G a (k + 1)) (fun _ _ => Or.inl) (tz_n ha (k + 1) i hi) hi hi2
    omega
theorem tz_stop {n : Nat} {G : puG} {a : Nat} (ha : a < n) : ∃ j, j < n ∧ tz_st n G a j := by
  apply Classical.byContradiction
  intro q
  have h := tz_up ha n (fun j hj hs => q ⟨j, hj, hs⟩)
  have := puN_le (tz_l n G a n) n
  omega
theorem tz_last {n : Nat} {G : puG} {a j : Nat} (hs : tz_st n G a j) (hj : j ≤ n) (i : Nat) : tz_l n G a n i ↔ tz_l n G a j i := by
  have h := tz_stay hs (n - j) i
  rw [show j + (n - j) = n by omega] at h
  exact h
theorem tz_mono {n : Nat} {G : puG} {a k i : Nat} (h : tz_l n G a k i) : ∀ j, tz_l n G a (k + j) i
  | 0 => h
  | j + 1 => Or.inl (tz_mono h j)
theorem tz_all {n : Nat} {G : puG} {a : Nat} (ha : a < n) (i : Nat) : tz_l n G a n i ↔ ∃ k, tz_l n G a k i := by
  refine ⟨fun h => ⟨n, h⟩, fun ⟨k, h⟩ => ?_⟩
  obtain ⟨j, hj, hs⟩ := tz_stop ha (G := G)
  rw [tz_last hs (by omega)]
  by_cases c : k ≤ j
  · have := tz_mono h (j - k); rw [show k + (j - k) = j by omega] at this; exact this
  · have := tz_stay hs (k - j) i; rw [show j + (k - j) = k by omega] at this; exact this.mp h
theorem tz_tr {n : Nat} {G : puG} {a b k : Nat} (h : tz_l n G a k b) : ∀ j i, tz_l n G b j i → tz_l n G a (k + j) i
  | 0, i, q => by have e : i = b := q; rw [e]; exact h
  | j + 1, i, q => by
    rcases q with q | ⟨s, h1, h2, h3⟩
    · exact Or.inl (tz_tr h j i q)
    · exact Or.inr ⟨s, h1, tz_tr h j s h2, h3⟩
theorem tz_sym {n : Nat} {G : puG} (hv : puVal n G) {a : Nat} (ha : a < n) : ∀ k b, tz_l n G a k b → ∃ j, tz_l n G b j a
  | 0, b, h => ⟨0, by have e : b = a := h; exact e.symm⟩
  | k + 1, b, h => by
    rcases h with h | ⟨s, h1, h2, h3, h4, h5⟩
    · exact tz_sym hv ha k b h
    · obtain ⟨j, hj⟩ := tz_sym hv ha k s h2
      have t1 : tz_l n G b 1 s := Or.inr ⟨b, h3, rfl, h1, Ne.symm h4, by rw [puKd_sym (hv.2 b h3) (hv.2 s h1)]; exact h5⟩
      exact ⟨1 + j, tz_tr t1 j a hj⟩
theorem tz_eqv {n : Nat} {G : puG} (hv : puVal n G) {a b : Nat} (ha : a < n) (hb : b < n) : tz_l n G a n b ↔ tz_l n G b n a := by
  rw [tz_all ha, tz_all hb]
  exact ⟨fun ⟨k, h⟩ => tz_sym hv ha k b h, fun ⟨k, h⟩ => tz_sym hv hb k a h⟩
theorem tz_trn {n : Nat} {G : puG} {a b i : Nat} (ha : a < n) (hb : b < n) (h : tz_l n G a n b) (h2 : tz_l n G b n i) : tz_l n G a n i := by
  rw [tz_all ha] at *
  obtain ⟨k, h⟩ := h
  exact ⟨_, tz_tr h n i h2⟩
theorem p_grown {n : Nat} {G : puG} (hn : n ≤ 24) {t : Nat → Int32} (ht : puTie n t (fun s i => i < n ∧ s ≠ i ∧ puKd (G s) (G i) ≠ 0)) {x : Int32} {A : Nat → Prop} (hx : puSt x A) : puOk (fX9_grown t (puI (n : Int)) x) (fun r => puSt r (fun i => A i ∨ ∃ s, s < n ∧ A s ∧ tz_t n G s i)) := by
  have key : puOk (xsWh (fun s3 => fX9_grown_L4 t (puI (n : Int)) x s3.1 s3.2) (x, (0 : Int32))) (fun r => puSt r (fun i => A i ∨ ∃ s, s < n ∧ A s ∧ tz_t n G s i)) := by
    refine puFor1 n (fun m z => z.2 = puI (m : Int) ∧ puSt z.1 (fun i => A i ∨ ∃ s, s < m ∧ A s ∧ tz_t n G s i)) _ ⟨rfl, puSt_c hx (fun i _ => ⟨Or.inl, fun q => q.elim id (fun ⟨s, hs, _⟩ => absurd hs (by omega))⟩)⟩ ?_ ?_
    · rintro m ⟨b, c⟩ hm ⟨rfl, h⟩
      simp only at h
      simp only [fX9_grown_L4]
      rw [pu_go hm (by omega), pu_has _ (by omega), puB_iff (hx m (by omega)), xsBd_sm]
      by_cases c : A m
      · rw [pu_bt c, xsCk_in (by omega) (by omega) (by omega), xsLt_eq, xsBd_sm, puI_clN (by omega)]
        simp only [fX9_grown_J29]
        rw [xsLt_eq, puI_s1]
        refine ⟨_, rfl, rfl, puSt_c (puSt_or h (ht m hm)) (fun i _ => ⟨?_, ?_⟩)⟩
        · rintro ((q | ⟨s, h1, h2⟩) | q)
          · exact Or.inl q
          · exact Or.inr ⟨s, by omega, h2⟩
          · exact Or.inr ⟨m, by omega, c, q⟩
        · rintro (q | ⟨s, h1, h2, h3⟩)
          · exact Or.inl (Or.inl q)
          · by_cases e : s = m
            · subst e; exact Or.inr h3
            · exact Or.inl (Or.inr ⟨s, by omega, h2, h3⟩)
      · rw [pu_bf c, xsBd_sm]
        simp only [fX9_grown_J29]
        rw [xsLt_eq, puI_s1]
        refine ⟨_, rfl, rfl, puSt_c h (fun i _ => ⟨?_, ?_⟩)⟩
        · rintro (q | ⟨s, h1, h2⟩)
          · exact Or.inl q
          · exact Or.inr ⟨s, by omega, h2⟩
        · rintro (q | ⟨s, h1, h2, h3⟩)
          · exact Or.inl q
          · by_cases e : s = m
            · subst e; exact absurd h2 c
            · exact Or.inr ⟨s, by omega, h2, h3⟩
    · rintro ⟨b, c⟩ ⟨rfl, h⟩
      simp only [fX9_grown_L4]
      rw [pu_out (by omega)]
      exact ⟨_, rfl, h⟩
  obtain ⟨r, er, hr⟩ := key
  unfold fX9_grown
  rw [xsBd_some er]
  exact puOk_some hr
theorem p_partK {n : Nat} {G : puG} (hn : n ≤ 24) {t : Nat → Int32} (ht : puTie n t (fun s i => i < n ∧ s ≠ i ∧ puKd (G s) (G i) ≠ 0)) {tn : Int32} (htn : tn = puI (n : Int)) {a : Nat} (ha : a < n) : puOk (fX9_part t tn (puI (a : Int))) (fun r => puSt r (tz_l n G a n)) := by
  subst htn
  have key : puOk (xsWh (fun s4 => fX9_part_L6 t (puI (n : Int)) s4.1 s4.2) ((1 : Int32) <<< (puI (a : Int) &&& 31), (0 : Int32))) (fun r => puSt r (tz_l n G a n)) := by
    refine puFor1 n (fun m z => z.2 = puI (m : Int) ∧ puSt z.1 (tz_l n G a m)) _ ⟨rfl, puSt_1 (by omega)⟩ ?_ ?_
    · rintro m ⟨b, c⟩ hm ⟨rfl, h⟩
      simp only at h
      obtain ⟨r, er, hr⟩ := p_grown hn ht h
      simp only [fX9_part_L6]
      rw [pu_go hm (by omega), er, xsBd_sm, xsLt_eq, puI_s1]
      exact ⟨_, rfl, rfl, hr⟩
    · rintro ⟨b, c⟩ ⟨rfl, h⟩
      simp only [fX9_part_L6]
      rw [pu_out (by omega)]
      exact ⟨_, rfl, h⟩
  obtain ⟨r, er, hr⟩ := key
  unfold fX9_part
  rw [xsLt_eq, xsBd_some er]
  exact puOk_some hr
def tz_least (n : Nat) (G : puG) (s : Nat) : Prop := ∀ i, i < s → ¬ tz_l n G s n i
theorem p_partsK {n : Nat} {G : puG} (hv : puVal n G) {t : Nat → Int32} (ht : puTie n t (fun s i => i < n ∧ s ≠ i ∧ puKd (G s) (G i) ≠ 0)) {tn : Int32} (htn : tn = puI (n : Int)) : fX9_parts t tn = some (puI (puN (tz_least n G) n : Int)) := by
  subst htn
  have hn := hv.1
  have key : puOk (xsWh (fun s4 => fX9_parts_L6 t (puI (n : Int)) s4.1 s4.2.1 s4.2.2) ((0 : Int32), (0 : Int32), (0 : Int32))) (fun r => r = puI (puN (tz_least n G) n : Int)) := by
    refine puFor1 n (fun m z => z.2.2 = puI (m : Int) ∧ z.1 = puI (puN (tz_least n G) m : Int) ∧ puSt z.2.1 (fun i => ∃ s, s < m ∧ tz_l n G s n i)) _ ⟨rfl, rfl, puSt_c puSt_0 (fun i _ => ⟨fun q => q.elim, fun ⟨s, hs, _⟩ => absurd hs (by omega)⟩)⟩ ?_ ?_
    · rintro m ⟨y1, y2, y3⟩ hm ⟨q1, q2, h⟩
      simp only at q1 q2 h
      subst q1; subst q2
      simp only [fX9_parts_L6]
      have il : (∃ s, s < m ∧ tz_l n G s n m) ↔ ¬ tz_least n G m := by
        unfold tz_least
        constructor
        · rintro ⟨s, hs, hl⟩ q
          exact q s hs ((tz_eqv hv (by omega) hm).mp hl)
        · intro q
          apply Classical.byContradiction
          intro z
          exact q (fun i hi hl => z ⟨i, hi, (tz_eqv hv hm (by omega)).mp hl⟩)
      rw [pu_go hm (by omega), pu_has _ (by omega), puB_iff ((h m (by omega)).trans il), xsBd_sm]
      by_cases c : tz_least n G m
      · obtain ⟨r, er, hr⟩ := p_partK hn ht rfl hm
        rw [pu_bf (fun q => q c), er, xsBd_sm, xsLt_eq, xsLt_eq, puI_s1, xsBd_sm]
        simp only [fX9_parts_J33]
        rw [xsLt_eq, puI_s1]
        refine ⟨_, rfl, rfl, by dsimp only; rw [puN_y c], puSt_c (puSt_or h hr) (fun i _ => ⟨?_, ?_⟩)⟩
        · rintro (⟨s, h1, h2⟩ | q)
          · exact ⟨s, by omega, h2⟩
          · exact ⟨m, by omega, q⟩
        · rintro ⟨s, h1, h2⟩
          by_cases e : s = m
          · subst e; exact Or.inr h2
          · exact Or.inl ⟨s, by omega, h2⟩
      · rw [pu_bt c, xsBd_sm]
        simp only [fX9_parts_J33]
        rw [xsLt_eq, puI_s1]
        refine ⟨_, rfl, rfl, by dsimp only; rw [puN_n c], puSt_c h (fun i _ => ⟨fun ⟨s, h1, h2⟩ => ⟨s, by omega, h2⟩, ?_⟩)⟩
        rintro ⟨s, h1, h2⟩
        by_cases e : s = m
        · subst e
          obtain ⟨s', hs', hl'⟩ := il.mpr c
          exact ⟨s', hs', tz_trn (by omega) hm hl' h2⟩
        · exact ⟨s, by omega, h2⟩
    · rintro ⟨y1, y2, y3⟩ ⟨q1, q2, h⟩
      simp only at q1 q2
      subst q1; subst q2
      simp only [fX9_parts_L6]
      rw [pu_out (by omega)]
      exact ⟨_, rfl, rfl⟩
  obtain ⟨r, er, rfl⟩ := key
  unfold fX9_parts
  rw [xsBd_some er]
  rfl
/-- how far: the first level, if any -/
def tz_ds (n : Nat) (G : puG) (a b : Nat) (r : Int32) : Prop := (∃ k : Nat, k < n ∧ tz_l n G a k b ∧ (∀ j, j < k → ¬ tz_l n G a j b) ∧ r = puI (k : Int)) ∨ ((∀ k, ¬ tz_l n G a k b) ∧ r = -1)
theorem tz_ds_u {n : Nat} {G : puG} {a b : Nat} {r q : Int32} (h : tz_ds n G a b r) (h2 : tz_ds n G a b q) : r = q := by
  rcases h with ⟨k, k1, k2, k3, rfl⟩ | ⟨k1, rfl⟩
  · rcases h2 with ⟨j, j1, j2, j3, rfl⟩ | ⟨j1, rfl⟩
    · rcases Nat.lt_trichotomy k j with z | z | z
      · exact absurd k2 (j3 k z)
      · rw [z]
      · exact absurd j2 (k3 j z)
    · exact absurd k2 (j1 k)
  · rcases h2 with ⟨j, j1, j2, j3, rfl⟩ | ⟨j1, rfl⟩
    · exact absurd j2 (k1 j)
    · rfl
theorem p_stepsK {n : Nat} {G : puG} (hn : n ≤ 24) {t : Nat → Int32} (ht : puTie n t (fun s i => i < n ∧ s ≠ i ∧ puKd (G s) (G i) ≠ 0)) {tn : Int32} (htn : tn = puI (n : Int)) {a b : Nat} (ha : a < n) (hb : b < n) : puOk (fX9_distance t tn (puI (a : Int)) (puI (b : Int))) (tz_ds n G a b) := by
  subst htn
  have key : puOk (xsWh (fun s4 => fX9_distance_L7 t (puI (n : Int)) (puI (b : Int)) s4.1 s4.2) ((1 : Int32) <<< (puI (a : Int) &&& 31), (0 : Int32))) (fun r => (∃ k : Nat, k < n ∧ tz_l n G a k b ∧ (∀ j, j < k → ¬ tz_l n G a j b) ∧ r = .inl (puI (k : Int))) ∨ ((∀ k, ¬ tz_l n G a k b) ∧ r = .inr ())) := by
    refine puFor n (fun m z => z.2 = puI (m : Int) ∧ puSt z.1 (tz_l n G a m) ∧ ∀ j, j < m → ¬ tz_l n G a j b) _ ?_ ?_ 0 _ (Nat.zero_le _) ⟨rfl, puSt_1 (by omega), fun j hj => by omega⟩
    · rintro m ⟨y2, y3⟩ hm ⟨rfl, h, hj⟩
      simp only at h
      simp only [fX9_distance_L7]
      rw [pu_go hm (by omega), pu_has _ (by omega), puB_iff (h b (by omega)), xsBd_sm]
      by_cases c : tz_l n G a m b
      · rw [pu_bt c]
        exact Or.inr ⟨_, rfl, Or.inl ⟨m, hm, c, hj, rfl⟩⟩
      · obtain ⟨r, er, hr⟩ := p_grown hn ht h
        rw [pu_bf c, er, xsBd_sm, xsLt_eq, puI_s1]
        refine Or.inl ⟨_, rfl, rfl, hr, fun j hj2 => ?_⟩
        by_cases e : j = m
        · subst e; exact c
        · exact hj j (by omega)
    · rintro ⟨y2, y3⟩ ⟨rfl, h, hj⟩
      simp only [fX9_distance_L7]
      rw [pu_out (by omega)]
      refine ⟨_, rfl, Or.inr ⟨fun k hk => ?_, rfl⟩⟩
      obtain ⟨j, hjn, hs⟩ := tz_stop ha (G := G)
      have h1 := (tz_all ha b).mpr ⟨k, hk⟩
      rw [tz_last hs (by omega)] at h1
      exact hj j hjn h1
  obtain ⟨r, er, hr⟩ := key
  unfold fX9_distance
  rw [xsLt_eq, xsBd_some er]
  rcases hr with ⟨k, k1, k2, k3, rfl⟩ | ⟨k1, rfl⟩
  · exact puOk_some (Or.inl ⟨k, k1, k2, k3, rfl⟩)
  · exact puOk_some (Or.inr ⟨k1, rfl⟩)
theorem p_tiedTo {n : Nat} {G : puG} {w one two sh : Nat → Int32} {x y d : Int64} (hv : puVal n G) (hw : puMW n G w) {a : Nat} (ha : a < n) : puOk (fX11_tiedTo w one two sh x y d (puI (a : Int))) (fun o => puSt o.1 (tz_t n G a)) := by
  have hn := hv.1
  have key : puOk (xsWh (fun s9 => fX11_tiedTo_L4 w (puI (a : Int)) s9.1 s9.2.1 s9.2.2.1 s9.2.2.2.1 s9.2.2.2.2.1 s9.2.2.2.2.2.1 s9.2.2.2.2.2.2.1 s9.2.2.2.2.2.2.2) ((0 : Int32), (0 : Int32), one, two, sh, x, y, d)) (fun o => puSt o.1 (tz_t n G a)) := by
    refine puFor1 n (fun m z => z.2.1 = puI (m : Int) ∧ puSt z.1 (fun i => i < m ∧ tz_t n G a i)) _ ⟨rfl, puSt_start⟩ ?_ ?_
    · rintro m ⟨y1, y2, one, two, sh, x, y, d⟩ hm ⟨q1, h⟩
      simp only at q1 h
      subst q1
      simp only [fX11_tiedTo_L4]
      rw [p_many hw, xsBd_sm, pu_go hm (by omega)]
      by_cases e : m = a
      · rw [xsBr_pos (by rw [e]), xsBd_sm]
        simp only [fX11_tiedTo_J34]
        rw [xsLt_eq, xsLt_eq, puI_s1]
        exact ⟨_, rfl, rfl, puSt_pass0 h (fun q => q.2.1 e.symm)⟩
      · obtain ⟨o, eo, o0, -⟩ := p_sharesOf hv hw ha hm (one := one) (two := two) (sh := sh) (x := x) (y := y) (d := d)
        have kl := puKd_le (G a) (G m)
        simp only at o0
        rw [xsBr_neg (by rw [puI_eqN (by omega) (by omega)]; exact e), xsBd_some eo, o0]
        by_cases c : puKd (G a) (G m) = 0
        · rw [xsBr_pos (by rw [c]; rfl), xsBd_sm]
          simp only [fX11_tiedTo_J34]
          rw [xsLt_eq, xsLt_eq, puI_s1]
          exact ⟨_, rfl, rfl, puSt_pass0 h (fun q => q.2.2 c)⟩
        · rw [xsBr_neg (by rw [show (0 : Int32) = puI ((0 : Nat) : Int) by rfl, puI_eqN (by omega) (by omega)]; exact c), xsBd_sm]
          simp only [fX11_tiedTo_J34]
          rw [xsLt_eq, xsLt_eq, puI_s1]
          exact ⟨_, rfl, rfl, puSt_put (by omega) h ⟨hm, Ne.symm e, c⟩⟩
    · rintro ⟨y1, y2, one, two, sh, x, y, d⟩ ⟨q1, h⟩
      simp only at q1 h
      subst q1
      simp only [fX11_tiedTo_L4]
      rw [p_many hw, xsBd_sm, pu_out (by omega)]
      exact ⟨_, rfl, puSt_c h (fun i _ => ⟨fun q => q.2, fun q => ⟨q.1, q⟩⟩)⟩
  obtain ⟨r, er, hr⟩ := key
  unfold fX11_tiedTo
  rw [xsBd_some er]
  exact puOk_some hr
theorem p_part16 {n : Nat} {G : puG} {w one two sh : Nat → Int32} {x y d : Int64} (hv : puVal n G) (hw : puMW n G w) {X : Int32} {A : Nat → Prop} (hx : puSt X A) : puOk (xsWh (fun s26 => fX11_partOf_L16 w X s26.1 s26.2.1 s26.2.2.1 s26.2.2.2.1 s26.2.2.2.2.1 s26.2.2.2.2.2.1 s26.2.2.2.2.2.2.1 s26.2.2.2.2.2.2.2) (X, (0 : Int32), one, two, sh, x, y, d)) (fun r => puSt r.1 (fun i => A i ∨ ∃ s, s < n ∧ A s ∧ tz_t n G s i)) := by
  have hn := hv.1
  refine puFor1 n (fun m z => z.2.1 = puI (m : Int) ∧ puSt z.1 (fun i => A i ∨ ∃ s, s < m ∧ A s ∧ tz_t n G s i)) _ ⟨rfl, puSt_c hx (fun i _ => ⟨Or.inl, fun q => q.elim id (fun ⟨s, hs, _⟩ => absurd hs (by omega))⟩)⟩ ?_ ?_
  · rintro m ⟨y1, y2, one, two, sh, x, y, d⟩ hm ⟨q1, h⟩
    simp only at q1 h
    subst q1
    simp only [fX11_partOf_L16]
    rw [p_many hw, xsBd_sm, pu_go hm (by omega), pu_holds _ (by omega), puB_iff (hx m (by omega)), xsBd_sm]
    by_cases c : A m
    · obtain ⟨o, eo, ho⟩ := p_tiedTo hv hw hm (one := one) (two := two) (sh := sh) (x := x) (y := y) (d := d)
      rw [pu_bt c, xsBd_some eo, xsBd_sm]
      simp only [fX11_partOf_J45]
      rw [xsLt_eq, xsLt_eq, puI_s1]
      refine ⟨_, rfl, rfl, puSt_c (puSt_or h ho) (fun i _ => ⟨?_, ?_⟩)⟩
      · rintro ((q | ⟨s, h1, h2⟩) | q)
        · exact Or.inl q
        · exact Or.inr ⟨s, by omega, h2⟩
        · exact Or.inr ⟨m, by omega, c, q⟩
      · rintro (q | ⟨s, h1, h2, h3⟩)
        · exact Or.inl (Or.inl q)
        · by_cases e : s = m
          · subst e; exact Or.inr h3
          · exact Or.inl (Or.inr ⟨s, by omega, h2, h3⟩)
    · rw [pu_bf c, xsBd_sm]
      simp only [fX11_partOf_J45]
      rw [xsLt_eq, xsLt_eq, puI_s1]
      refine ⟨_, rfl, rfl, puSt_c (puSt_or h puSt_0) (fun i _ => ⟨?_, ?_⟩)⟩
      · rintro ((q | ⟨s, h1, h2⟩) | q)
        · exact Or.inl q
        · exact Or.inr ⟨s, by omega, h2⟩
        · exact q.elim
      · rintro (q | ⟨s, h1, h2, h3⟩)
        · exact Or.inl (Or.inl q)
        · by_cases e : s = m
          · subst e; exact absurd h2 c
          · exact Or.inl (Or.inr ⟨s, by omega, h2, h3⟩)
  · rintro ⟨y1, y2, one, two, sh, x, y, d⟩ ⟨q1, h⟩
    simp only at q1 h
    subst q1
    simp only [fX11_partOf_L16]
    rw [p_many hw, xsBd_sm, pu_out (by omega)]
    exact ⟨_, rfl, h⟩
theorem p_steps35 {n : Nat} {G : puG} {w one two sh : Nat → Int32} {x y d : Int64} (hv : puVal n G) (hw : puMW n G w) {X : Int32} {A : Nat → Prop} (hx : puSt X A) : puOk (xsWh (fun s26 => fX11_steps_L35 w X s26.1 s26.2.1 s26.2.2.1 s26.2.2.2.1 s26.2.2.2.2.1 s26.2.2.2.2.2.1 s26.2.2.2.2.2.2.1 s26.2.2.2.2.2.2.2) (X, (0 : Int32), one, two, sh, x, y, d)) (fun r => puSt r.1 (fun i => A i ∨ ∃ s, s < n ∧ A s ∧ tz_t n G s i)) := by
  have hn := hv.1
  refine puFor1 n (fun m z => z.2.1 = puI (m : Int) ∧ puSt z.1 (fun i => A i ∨ ∃ s, s < m ∧ A s ∧ tz_t n G s i)) _ ⟨rfl, puSt_c hx (fun i _ => ⟨Or.inl, fun q => q.elim id (fun ⟨s, hs, _⟩ => absurd hs (by omega))⟩)⟩ ?_ ?_
  · rintro m ⟨y1, y2, one, two, sh, x, y, d⟩ hm ⟨q1, h⟩
    simp only at q1 h
    subst q1
    simp only [fX11_steps_L35]
    rw [p_many hw, xsBd_sm, pu_go hm (by omega), pu_holds _ (by omega), puB_iff (hx m (by omega)), xsBd_sm]
    by_cases c : A m
    · obtain ⟨o, eo, ho⟩ := p_tiedTo hv hw hm (one := one) (two := two) (sh := sh) (x := x) (y := y) (d := d)
      rw [pu_bt c, xsBd_some eo, xsBd_sm]
      simp only [fX11_steps_J65]
      rw [xsLt_eq, xsLt_eq, puI_s1]
      refine ⟨_, rfl, rfl, puSt_c (puSt_or h ho) (fun i _ => ⟨?_, ?_⟩)⟩
      · rintro ((q | ⟨s, h1, h2⟩) | q)
        · exact Or.inl q
        · exact Or.inr ⟨s, by omega, h2⟩
        · exact Or.inr ⟨m, by omega, c, q⟩
      · rintro (q | ⟨s, h1, h2, h3⟩)
        · exact Or.inl (Or.inl q)
        · by_cases e : s = m
          · subst e; exact Or.inr h3
          · exact Or.inl (Or.inr ⟨s, by omega, h2, h3⟩)
    · rw [pu_bf c, xsBd_sm]
      simp only [fX11_steps_J65]
      rw [xsLt_eq, xsLt_eq, puI_s1]
      refine ⟨_, rfl, rfl, puSt_c (puSt_or h puSt_0) (fun i _ => ⟨?_, ?_⟩)⟩
      · rintro ((q | ⟨s, h1, h2⟩) | q)
        · exact Or.inl q
        · exact Or.inr ⟨s, by omega, h2⟩
        · exact q.elim
      · rintro (q | ⟨s, h1, h2, h3⟩)
        · exact Or.inl (Or.inl q)
        · by_cases e : s = m
          · subst e; exact absurd h2 c
          · exact Or.inl (Or.inr ⟨s, by omega, h2, h3⟩)
  · rintro ⟨y1, y2, one, two, sh, x, y, d⟩ ⟨q1, h⟩
    simp only at q1 h
    subst q1
    simp only [fX11_steps_L35]
    rw [p_many hw, xsBd_sm, pu_out (by omega)]
    exact ⟨_, rfl, h⟩
theorem p_partM {n : Nat} {G : puG} {w one two sh : Nat → Int32} {x y d : Int64} (hv : puVal n G) (hw : puMW n G w) {a : Nat} (ha : a < n) : puOk (fX11_partOf w one two sh x y d (puI (a : Int))) (fun o => puSt o.1 (tz_l n G a n)) := by
  have hn := hv.1
  have key : puOk (xsWh (fun s10 => fX11_partOf_L6 w s10.1 s10.2.1 s10.2.2.1 s10.2.2.2.1 s10.2.2.2.2.1 s10.2.2.2.2.2.1 s10.2.2.2.2.2.2.1 s10.2.2.2.2.2.2.2) ((1 : Int32) <<< (puI (a : Int) &&& 31), (0 : Int32), one, two, sh, x, y, d)) (fun o => puSt o.1 (tz_l n G a n)) := by
    refine puFor (n + 1) (fun m z => puSt z.1 (tz_l n G a m) ∧ ((m = 0 ∧ z.2.1 = 0) ∨ ∃ j, m = j + 1 ∧ puSt z.2.1 (tz_l n G a j))) _ ?_ ?_ 0 _ (Nat.zero_le _) ⟨puSt_1 (by omega), Or.inl ⟨rfl, rfl⟩⟩
    · rintro m ⟨y1, y2, one, two, sh, x, y, d⟩ hm ⟨h, q⟩
      simp only at h q
      simp only [fX11_partOf_L6]
      by_cases c : y1 = y2
      · rw [xsBr_pos c]
        refine Or.inr ⟨_, rfl, ?_⟩
        rcases q with ⟨rfl, rfl⟩ | ⟨j, rfl, hj⟩
        · exfalso
          have := (h a (by omega)).mpr rfl
          rw [c, b_0] at this
          exact absurd this (by decide)
        · subst c
          have st : tz_st n G a j := fun i => by
            constructor
            · exact Or.inl
            · intro z
              have hi := tz_n ha _ _ z
              exact (hj i (by omega)).mp ((h i (by omega)).mpr z)
          exact puSt_c hj (fun i _ => (tz_last st (by omega) i).symm)
      · obtain ⟨r, er, hr⟩ := p_part16 hv hw h (one := one) (two := two) (sh := sh) (x := x) (y := y) (d := d)
        rw [xsBr_neg c, xsBd_some er]
        simp only [fX11_partOf_J53]
        exact Or.inl ⟨_, rfl, hr, Or.inr ⟨m, rfl, h⟩⟩
    · rintro ⟨y1, y2, one, two, sh, x, y, d⟩ ⟨h, q⟩
      simp only at h q
      rcases q with ⟨e, -⟩ | ⟨j, e, hj⟩
      · omega
      obtain rfl : j = n := by omega
      obtain ⟨i0, hi0, hs⟩ := tz_stop ha (G := G)
      have st : ∀ i, tz_l j G a (j + 1) i ↔ tz_l j G a j i := fun i => by
        rw [tz_last hs (by omega)]
        have := tz_stay hs (j + 1 - i0) i
        rw [show i0 + (j + 1 - i0) = j + 1 by omega] at this
        exact this
      have c : y1 = y2 := puSt_ext h hj (fun i _ => st i)
      simp only [fX11_partOf_L6]
      rw [xsBr_pos c]
      exact ⟨_, rfl, puSt_c h (fun i _ => st i)⟩
  obtain ⟨r, er, hr⟩ := key
  unfold fX11_partOf
  rw [xsLt_eq, xsBd_some er]
  exact puOk_some hr
theorem p_partsM {n : Nat} {G : puG} {w one two sh : Nat → Int32} {x y d : Int64} (hv : puVal n G) (hw : puMW n G w) : puOk (fX11_parts w one two sh x y d) (fun o => o.1 = puI (puN (tz_least n G) n : Int)) := by
  have hn := hv.1
  have key : puOk (xsWh (fun s9 => fX11_parts_L4 w s9.1 s9.2.1 s9.2.2.1 s9.2.2.2.1 s9.2.2.2.2.1 s9.2.2.2.2.2.1 s9.2.2.2.2.2.2.1 s9.2.2.2.2.2.2.2) ((0 : Int32), (0 : Int32), one, two, sh, x, y, d)) (fun o => o.1 = puI (puN (tz_least n G) n : Int)) := by
    refine puFor1 n (fun m z => z.2.1 = puI (m : Int) ∧ z.1 = puI (puN (tz_least n G) m : Int)) _ ⟨rfl, rfl⟩ ?_ ?_
    · rintro m ⟨y1, y2, one, two, sh, x, y, d⟩ hm ⟨q1, q2⟩
      simp only at q1 q2
      subst q1; subst q2
      obtain ⟨o, eo, ho⟩ := p_partM hv hw hm (one := one) (two := two) (sh := sh) (x := x) (y := y) (d := d)
      simp only [fX11_parts_L4]
      rw [p_many hw, xsBd_sm, pu_go hm (by omega), xsBd_some eo]
      have z := puSt_z (puSt_and ho (puSt_less (s := m) (by omega)))
      by_cases c : tz_least n G m
      · rw [xsBr_pos (z.mpr (fun i _ q => c i q.2 q.1)), xsBd_sm]
        simp only [fX11_parts_J32]
        rw [xsLt_eq, xsLt_eq, puI_s1, puI_s1]
        exact ⟨_, rfl, rfl, by dsimp only; rw [puN_y c]⟩
      · rw [xsBr_neg (fun q => c (fun i hi hl => z.mp q i (by omega) ⟨hl, hi⟩)), xsBd_sm]
        simp only [fX11_parts_J32]
        rw [xsLt_eq, xsLt_eq, puI_s1, puI_a0]
        exact ⟨_, rfl, rfl, by dsimp only; rw [puN_n c]⟩
    · rintro ⟨y1, y2, one, two, sh, x, y, d⟩ ⟨q1, q2⟩
      simp only at q1 q2
      subst q1; subst q2
      simp only [fX11_parts_L4]
      rw [p_many hw, xsBd_sm, pu_out (by omega)]
      exact ⟨_, rfl, rfl⟩
  obtain ⟨r, er, hr⟩ := key
  unfold fX11_parts
  rw [xsBd_some er]
  exact puOk_some hr
theorem p_steps18 {n : Nat} {G : puG} {w one two sh : Nat → Int32} {x y d : Int64} (hv : puVal n G) (hw : puMW n G w) {a b : Nat} (ha : a < n) (hb : b < n) {o1 : _} : puOk (xsWh (fun s12 => fX11_steps_L18 w (puI (b : Int)) o1 s12.1 s12.2.1 s12.2.2.1 s12.2.2.2.1 s12.2.2.2.2.1 s12.2.2.2.2.2.1 s12.2.2.2.2.2.2.1 s12.2.2.2.2.2.2.2) ((1 : Int32) <<< (puI (a : Int) &&& 31), (0 : Int32), one, two, sh, x, y, d)) (fun r => ∃ q one two sh x y d, tz_ds n G a b q ∧ (r = .inl (q, o1.2, one, two, sh, x, y, d) ∨ r = .inr (q, one, two, sh, x, y, d))) := by
  have hn := hv.1
  refine puFor n (fun m z => z.2.1 = puI (m : Int) ∧ puSt z.1 (tz_l n G a m) ∧ (∀ j, j < m → ¬ tz_l n G a j b) ∧ ∀ j, j < m → ¬ tz_st n G a j) _ ?_ ?_ 0 _ (Nat.zero_le _) ⟨rfl, puSt_1 (by omega), fun j hj => by omega, fun j hj => by omega⟩
  · rintro m ⟨y1, y2, one, two, sh, x, y, d⟩ hm ⟨q1, h, h2, h3⟩
    simp only at q1 h
    subst q1
    simp only [fX11_steps_L18]
    rw [pu_holds _ (by omega), puB_iff (h b (by omega)), xsBd_sm]
    by_cases c : tz_l n G a m b
    · rw [pu_bt c]
      exact Or.inr ⟨_, rfl, _, _, _, _, _, _, _, Or.inl ⟨m, hm, c, h2, rfl⟩, Or.inr rfl⟩
    · obtain ⟨r, er, hr⟩ := p_steps35 hv hw h (one := one) (two := two) (sh := sh) (x := x) (y := y) (d := d)
      rw [pu_bf c, xsBd_some er]
      simp only [fX11_steps_J74]
      by_cases e : r.1 = y1
      · rw [xsBr_pos e]
        refine Or.inr ⟨_, rfl, _, _, _, _, _, _, _, Or.inr ⟨fun k hk => ?_, rfl⟩, Or.inl rfl⟩
        have st : tz_st n G a m := fun i => by
          constructor
          · exact Or.inl
          · intro z
            have hi := tz_n ha (m + 1) i z
            rw [e] at hr
            exact (h i (by omega)).mp ((hr i (by omega)).mpr z)
        by_cases g : k < m
        · exact h2 k g hk
        · have := tz_stay st (k - m) b
          rw [show m + (k - m) = k by omega] at this
          exact c (this.mp hk)
      · rw [xsBr_neg e, xsLt_eq, puI_s1]
        refine Or.inl ⟨_, rfl, rfl, hr, fun j hj => ?_, fun j hj => ?_⟩
        · by_cases g : j = m
          · subst g; exact c
          · exact h2 j (by omega)
        · by_cases g : j = m
          · subst g
            exact fun st => e (puSt_ext hr h (fun i _ => (st i).symm))
          · exact h3 j (by omega)
  · rintro ⟨y1, y2, one, two, sh, x, y, d⟩ ⟨q1, h, h2, h3⟩
    obtain ⟨j, hj, hs⟩ := tz_stop ha (G := G)
    exact absurd hs (h3 j hj)
theorem q_tied : pc_tied puRl := by
  intro kIsKept kIsStale hiLatest hiSize scLength scFault scAt scNumber piSegmentsNow enKind enFromX enFromY enToX enToY tiMeetingPairs tiAlongPairs tiSize evSize evCrossings evSegmentsNow grEdges grQueued huSize huBestX huBestY scBytes scTold tiTouching tiLyingAlong evBundle evCrossingOf evEventOf evLeftEvent evRightEvent grDegree grFar grQueue huX huY enX enY enLower evX evY evLower S mThrown mRemembered mHasImage mIsLaid mEvents mCrossings mEdges mTaped mPoint mEnd mBegin mFaultAt mActs mWorld mImage mDraft mEarlier mOne mTwo mShare mCrossingOf mBundle mEventOf mDegree mFrom mTo mMet mTape mFive mTold mFar mViews mHullX mHullY mEndX mEndY mMeets mMeetsOf mX mY mD mHeightUp mHeightLow mEventX mEventY mEventD mUpper mLower hR a0
  obtain ⟨n, G, rw, ri, rh, rt, rk, rm⟩ := hR
  obtain ⟨i, rfl, i1, i2⟩ := puI_ex a0
  obtain ⟨w1, w2, w3⟩ := id rw
  have hn := w1.1
  unfold fX10_tied fX11_tied
  rw [w2.2.2, p_checkSegment i1 i2 (by omega), p_noSegment hn w3 i1 i2, xsBd_sm, xsBd_sm]
  by_cases c0 : 0 ≤ i ∧ i < (n : Int)
  case neg =>
    rw [puCk_neg c0, puB_pos c0, puE_pos c0]
    simp only [xsTh]
    rw [xsBr_neg (by decide)]
    exact ⟨_, _, rfl, rfl, Or.inr ⟨_, _, rfl, rfl, rfl, n, G, rw, ri, rh, rt, rk, rm⟩⟩
  rw [puCk_pos c0, puB_neg (fun q => q c0), puE_neg (fun q => q c0)]
  simp only [xsTh]
  obtain ⟨s, rfl, hs⟩ : ∃ s : Nat, i = (s : Int) ∧ s < n := ⟨i.toNat, by omega, by omega⟩
  obtain ⟨o, eo, o0, ho⟩ := p_drawn w1 w2.1 rk (k0 := enKind) (x0 := enX) (y0 := enY) (l0 := enLower) (f0 := enFromX) (f1 := enFromY) (f2 := enToX) (f3 := enToY)
  obtain ⟨o2, eo2, ho2⟩ := p_tiedTo w1 w3 hs (one := mOne) (two := mTwo) (sh := mShare) (x := mX) (y := mY) (d := mD)
  obtain ⟨-, -, ⟨gt, -⟩, -⟩ := id ho
  rw [xsBr_T, xsBd_some eo, xsBd_some eo2, xsCk_in (by omega) (by omega) (by omega), puI_clN (by omega)]
  exact ⟨_, _, rfl, rfl, Or.inl ⟨_, rfl, puSt_eq (gt s hs) ho2, rfl, n, G, rw, ri, rh, rt, Or.inr ⟨o0, ho⟩, rm⟩⟩

theorem q_steps : pc_steps puRl := by
  intro kIsKept kIsStale hiLatest hiSize scLength scFault scAt scNumber piSegmentsNow enKind enFromX enFromY enToX enToY tiMeetingPairs tiAlongPairs tiSize evSize evCrossings evSegmentsNow grEdges grQueued huSize huBestX huBestY scBytes scTold tiTouching tiLyingAlong evBundle evCrossingOf evEventOf evLeftEvent evRightEvent grDegree grFar grQueue huX huY enX enY enLower evX evY evLower S mThrown mRemembered mHasImage mIsLaid mEvents mCrossings mEdges mTaped mPoint mEnd mBegin mFaultAt mActs mWorld mImage mDraft mEarlier mOne mTwo mShare mCrossingOf mBundle mEventOf mDegree mFrom mTo mMet mTape mFive mTold mFar mViews mHullX mHullY mEndX mEndY mMeets mMeetsOf mX mY mD mHeightUp mHeightLow mEventX mEventY mEventD mUpper mLower hR a0 a1
  obtain ⟨n, G, rw, ri, rh, rt, rk, rm⟩ := hR
  obtain ⟨i, rfl, i1, i2⟩ := puI_ex a0
  obtain ⟨j, rfl, j1, j2⟩ := puI_ex a1
  obtain ⟨w1, w2, w3⟩ := id rw
  have hn := w1.1
  unfold fX10_steps fX11_steps
  rw [w2.2.2, p_seg i1 i2 (by omega), p_noTwo hn w3 i1 i2 j1 j2, xsBd_sm, xsBd_sm]
  by_cases c0 : puXi n i
  case neg =>
    have c' : ¬ (puXi n i ∧ puXi n j) := fun q => c0 q.1
    rw [puCk_neg c0, puB_pos c', puE_pos c']
    simp only [xsTh]
    rw [xsBr_neg (by decide)]
    exact ⟨_, _, rfl, rfl, Or.inr ⟨_, _, rfl, rfl, rfl, n, G, rw, ri, rh, rt, rk, rm⟩⟩
  rw [puCk_pos c0]
  simp only [xsTh]
  rw [p_seg j1 j2 (by omega), xsBd_sm]
  by_cases c1 : puXi n j
  case neg =>
    have c' : ¬ (puXi n i ∧ puXi n j) := fun q => c1 q.2
    rw [puCk_neg c1, puB_pos c', puE_pos c']
    simp only [xsTh]
    rw [xsBr_neg (by decide)]
    exact ⟨_, _, rfl, rfl, Or.inr ⟨_, _, rfl, rfl, rfl, n, G, rw, ri, rh, rt, rk, rm⟩⟩
  have c' : ¬ ¬ (puXi n i ∧ puXi n j) := fun q => q ⟨c0, c1⟩
  rw [puCk_pos c1, puB_neg c', puE_neg c']
  simp only [xsTh]
  unfold puXi at c0 c1
  obtain ⟨s, rfl, hs⟩ : ∃ s : Nat, i = (s : Int) ∧ s < n := ⟨i.toNat, by omega, by omega⟩
  obtain ⟨s2, rfl, hs2⟩ : ∃ s : Nat, j = (s : Int) ∧ s < n := ⟨j.toNat, by omega, by omega⟩
  obtain ⟨o, eo, o0, ho⟩ := p_drawn w1 w2.1 rk (k0 := enKind) (x0 := enX) (y0 := enY) (l0 := enLower) (f0 := enFromX) (f1 := enFromY) (f2 := enToX) (f3 := enToY)
  obtain ⟨-, ⟨-, gtn, -⟩, ⟨gt, -⟩, -⟩ := id ho
  obtain ⟨r, er, hr⟩ := p_stepsK hn gt gtn hs hs2
  obtain ⟨r2, er2, q, one, two, sh, x, y, d, hq, hr2⟩ := p_steps18 w1 w3 hs hs2 (o1 := ((0 : Int32), (0 : Int32))) (one := mOne) (two := mTwo) (sh := mShare) (x := mX) (y := mY) (d := mD)
  rw [xsBr_T, xsBd_some eo, er, xsBd_sm, xsLt_eq, xsBd_some er2, tz_ds_u hr hq]
  rcases hr2 with rfl | rfl
  · simp only [xsSm]
    exact ⟨_, _, rfl, rfl, Or.inl ⟨_, rfl, rfl, rfl, n, G, rw, ri, rh, rt, Or.inr ⟨o0, ho⟩, rm⟩⟩
  · simp only [xsSm, fX11_steps_J26]
    exact ⟨_, _, rfl, rfl, Or.inl ⟨_, rfl, rfl, rfl, n, G, rw, ri, rh, rt, Or.inr ⟨o0, ho⟩, rm⟩⟩

