/-! PURE: the picture of a world: its points in order, pairs, edges -/
def puCr (n : Nat) (G : puG) (p : puP) : Prop := ∃ a b, b < a ∧ a < n ∧ puKd (G a) (G b) = 1 ∧ p = puMp (G a) (G b)
def puPt (n : Nat) (G : puG) (p : puP) : Prop := (∃ s, s < n ∧ (p = puA (G s) ∨ p = puZ (G s))) ∨ puCr n G p
def puEvt (n : Nat) (G : puG) (N : Nat) (P : Nat → puP) : Prop := puSo N P ∧ ∀ p, puMe N P p ↔ puPt n G p
noncomputable def puCan (n : Nat) (G : puG) : Nat × (Nat → puP) := @dite _ (∃ x : Nat × (Nat → puP), puEvt n G x.1 x.2) (Classical.propDecidable _) (fun h => Classical.choose h) (fun _ => (0, fun _ => (0, 0)))
theorem puCan_of {n : Nat} {G : puG} {N : Nat} {P : Nat → puP} (h : puEvt n G N P) : puEvt n G (puCan n G).1 (puCan n G).2 ∧ N = (puCan n G).1 ∧ ∀ k, k < N → P k = (puCan n G).2 k := by
  have hx : ∃ x : Nat × (Nat → puP), puEvt n G x.1 x.2 := ⟨(N, P), h⟩
  have e : puCan n G = Classical.choose hx := dif_pos hx
  have hc := Classical.choose_spec hx
  rw [← e] at hc
  obtain ⟨h1, h2⟩ := puSo_uniq h.1 hc.1 (fun p => (h.2 p).trans (hc.2 p).symm)
  exact ⟨hc, h1, h2⟩
theorem puEvs_c {N : Nat} {P Q : Nat → puP} {x y d : Nat → Int64} (h : puEvs N P x y d) (e : ∀ k, k < N → P k = Q k) : puEvs N Q x y d := fun k hk => by rw [← e k hk]; exact h k hk
/-- a world's picture stands -/
def puOkP (n : Nat) (G : puG) : Prop := puVal n G ∧ puEvt n G (puCan n G).1 (puCan n G).2
/-- a SEGMENT has an EVENT -/
def puO (n : Nat) (G : puG) (s k : Nat) : Prop := s < n ∧ puOn (G s) ((puCan n G).2 k)
theorem pu_smN (P : Nat → Prop) (n : Nat) : fb_sm (fun s => puE (P s) 1 0) n = puN P n := by
  induction n with
  | zero => rfl
  | succ n ih => rw [fb_sm_succ, puN_s, ih]
/-- pairs, the second one of the lesser number -/
noncomputable def puPr (n : Nat) (R : Nat → Nat → Prop) : Nat := fb_sm (fun a => puN (R a) a) n
theorem puPr_c {n : Nat} {R Q : Nat → Nat → Prop} (h : ∀ a b, a < n → b < a → (R a b ↔ Q a b)) : puPr n R = puPr n Q :=
  fb_sm_cong (fun a ha => puN_c (fun b hb => h a b ha hb))
theorem pu_dbl {R : Nat → Nat → Prop} (hs : ∀ a b, R a b ↔ R b a) (hi : ∀ a, ¬ R a a) (n : Nat) : fb_sm (fun s => puN (R s) n) n = 2 * puPr n R := by
  induction n with
  | zero => rfl
  | succ n ih =>
    have e1 : fb_sm (fun s => puN (R s) (n + 1)) n = fb_sm (fun s => puN (R s) n + puE (R s n) 1 0) n := fb_sm_cong (fun k _ => puN_s (R k) n)
    have e2 : puN (fun s => R s n) n = puN (R n) n := puN_c (fun k _ => hs k n)
    have e3 : puPr (n + 1) R = puPr n R + puN (R n) n := rfl
    rw [fb_sm_succ, e1, fb_sm_add, pu_smN, e2, ih, puN_s, puE_neg (hi n), e3]
    omega
theorem puPr_pos {n : Nat} {R : Nat → Nat → Prop} : 0 < puPr n R ↔ ∃ a b, b < a ∧ a < n ∧ R a b := by
  constructor
  · intro h
    apply Classical.byContradiction; intro c
    have : puPr n R = fb_sm (fun _ => 0) n := fb_sm_cong (fun a ha => puN_z.mpr (fun b hb q => c ⟨a, b, hb, ha, q⟩))
    rw [this, fb_sm_const] at h; omega
  · rintro ⟨a, b, hb, ha, q⟩
    have h1 : 0 < puN (R a) a := puN_pos.mpr ⟨b, hb, q⟩
    have := fb_sm_part (fun a => puN (R a) a) ha
    unfold puPr; omega
theorem puPr_le (n : Nat) (R : Nat → Nat → Prop) : puPr n R ≤ n * n := fb_sm_bound (fun k hk => Nat.le_trans (puN_le _ _) (Nat.le_of_lt hk))
/-! edges: told once for each, by the least SEGMENT that goes from one EVENT to the next -/
noncomputable def puLs (O : Nat → Prop) : Nat → Int
  | 0 => -1
  | k + 1 => puE (O k) (k : Int) (puLs O k)
theorem puLs_or (O : Nat → Prop) (k : Nat) : (puLs O k = -1 ∧ ∀ j, j < k → ¬ O j) ∨ (∃ j : Nat, j < k ∧ puLs O k = (j : Int) ∧ O j ∧ ∀ i, j < i → i < k → ¬ O i) := by
  induction k with
  | zero => exact Or.inl ⟨rfl, fun j hj => by omega⟩
  | succ k ih =>
    by_cases c : O k
    · right
      exact ⟨k, by omega, by show puE (O k) _ _ = _; rw [puE_pos c], c, fun i h1 h2 => by omega⟩
    · have e : puLs O (k + 1) = puLs O k := by show puE (O k) _ _ = _; rw [puE_neg c]
      rcases ih with ⟨h1, h2⟩ | ⟨j, h1, h2, h3, h4⟩
      · left
        exact ⟨e.trans h1, fun j hj => by
          by_cases q : j = k
          · subst q; exact c
          · exact h2 j (by omega)⟩
      · right
        exact ⟨j, by omega, e.trans h2, h3, fun i h5 h6 => by
          by_cases q : i = k
          · subst q; exact c
          · exact h4 i h5 (by omega)⟩
/-- one EVENT behind another on a SEGMENT -/
def puCs (O : Nat → Nat → Prop) (s j k : Nat) : Prop := j < k ∧ O s j ∧ O s k ∧ ∀ i, j < i → i < k → ¬ O s i
theorem puLs_cs {O : Nat → Nat → Prop} {s j k : Nat} (hk : O s k) : puLs (O s) k = (j : Int) ↔ puCs O s j k := by
  rcases puLs_or (O s) k with ⟨h1, h2⟩ | ⟨i, h1, h2, h3, h4⟩
  · constructor
    · intro h; rw [h1] at h; omega
    · rintro ⟨q1, q2, -, -⟩; exact absurd q2 (h2 j q1)
  · constructor
    · intro h
      have : i = j := by rw [h2] at h; omega
      subst this; exact ⟨h1, h3, hk, h4⟩
    · rintro ⟨q1, q2, q3, q4⟩
      rcases Nat.lt_trichotomy i j with r | r | r
      · exact absurd q2 (h4 j r q1)
      · subst r; exact h2
      · exact absurd h3 (q4 i r h1)
def puNw (O : Nat → Nat → Prop) (s k : Nat) : Prop := O s k ∧ ∃ j : Nat, puLs (O s) k = (j : Int) ∧ ∀ s', s' < s → ¬ (O s' j ∧ O s' k)
noncomputable def puEl (O : Nat → Nat → Prop) (L : List (Nat × Nat)) (s : Nat) : Nat → List (Nat × Nat)
  | 0 => L
  | k + 1 => puE (puNw O s k) (puEl O L s k ++ [((puLs (O s) k).toNat, k)]) (puEl O L s k)
noncomputable def puES (O : Nat → Nat → Prop) (N : Nat) : Nat → List (Nat × Nat)
  | 0 => []
  | s + 1 => puEl O (puES O N s) s N
theorem puEl_y {O : Nat → Nat → Prop} {L : List (Nat × Nat)} {s k j : Nat} (h : O s k) (hj : puLs (O s) k = (j : Int)) (hn : ∀ s', s' < s → ¬ (O s' j ∧ O s' k)) : puEl O L s (k + 1) = puEl O L s k ++ [(j, k)] := by
  show puE (puNw O s k) _ _ = _
  rw [puE_pos ⟨h, j, hj, hn⟩, hj]; rfl
theorem puEl_n {O : Nat → Nat → Prop} {L : List (Nat × Nat)} {s k : Nat} (h : ¬ puNw O s k) : puEl O L s (k + 1) = puEl O L s k := by
  show puE (puNw O s k) _ _ = _
  rw [puE_neg h]
/-- two of a line that have both, have the same between -/
def puGb (O : Nat → Nat → Prop) : Prop := ∀ s s' j k, puCs O s j k → O s' j → O s' k → puCs O s' j k
theorem puES_mem {O : Nat → Nat → Prop} (hb : puGb O) {N : Nat} : ∀ s, (∀ j k, (j, k) ∈ puES O N s ↔ k < N ∧ ∃ s', s' < s ∧ puCs O s' j k) ∧ ∀ m, m ≤ N → ∀ j k, (j, k) ∈ puEl O (puES O N s) s m ↔ (j, k) ∈ puES O N s ∨ (k < m ∧ puCs O s j k) := by
  intro s
  have inner : ∀ s, (∀ j k, (j, k) ∈ puES O N s ↔ k < N ∧ ∃ s', s' < s ∧ puCs O s' j k) → ∀ m, m ≤ N → ∀ j k, (j, k) ∈ puEl O (puES O N s) s m ↔ (j, k) ∈ puES O N s ∨ (k < m ∧ puCs O s j k) := by
    intro s hs m
    induction m with
    | zero => intro _ j k; exact ⟨Or.inl, fun h => h.elim id (fun q => by omega)⟩
    | succ m ih =>
      intro hm j k
      have ih := ih (by omega) j k
      by_cases c : puNw O s m
      · obtain ⟨h1, i, h2, h3⟩ := c
        rw [puEl_y h1 h2 h3, List.mem_append, ih, List.mem_singleton, Prod.mk.injEq]
        constructor
        · rintro ((q | q) | ⟨rfl, rfl⟩)
          · exact Or.inl q
          · exact Or.inr ⟨by omega, q.2⟩
          · exact Or.inr ⟨by omega, (puLs_cs h1).mp h2⟩
        · rintro (q | ⟨q1, q2⟩)
          · exact Or.inl (Or.inl q)
          · by_cases e : k = m
            · subst e
              have := (puLs_cs h1).mpr q2
              rw [h2] at this
              exact Or.inr ⟨by omega, rfl⟩
            · exact Or.inl (Or.inr ⟨by omega, q2⟩)
      · rw [puEl_n c, ih]
        constructor
        · rintro (q | q)
          · exact Or.inl q
          · exact Or.inr ⟨by omega, q.2⟩
        · rintro (q | ⟨q1, q2⟩)
          · exact Or.inl q
          · by_cases e : k = m
            · subst e
              left
              rw [hs]
              refine ⟨by omega, ?_⟩
              apply Classical.byContradiction; intro q
              exact c ⟨q2.2.2.1, j, (puLs_cs q2.2.2.1).mpr q2, fun s' hs' z => q ⟨s', hs', hb s s' j k q2 z.1 z.2⟩⟩
            · exact Or.inr ⟨by omega, q2⟩
  have outer : ∀ s, ∀ j k, (j, k) ∈ puES O N s ↔ k < N ∧ ∃ s', s' < s ∧ puCs O s' j k := by
    intro s
    induction s with
    | zero => intro j k; exact ⟨fun h => absurd h List.not_mem_nil, fun ⟨_, s', h, _⟩ => by omega⟩
    | succ s ih =>
      intro j k
      show (j, k) ∈ puEl O (puES O N s) s N ↔ _
      rw [inner s ih N (Nat.le_refl _) j k, ih]
      constructor
      · rintro (⟨h1, s', h2, h3⟩ | ⟨h1, h2⟩)
        · exact ⟨h1, s', by omega, h3⟩
        · exact ⟨h1, s, by omega, h2⟩
      · rintro ⟨h1, s', h2, h3⟩
        by_cases e : s' = s
        · subst e; exact Or.inr ⟨h1, h3⟩
        · exact Or.inl ⟨h1, s', by omega, h3⟩
  exact ⟨outer s, inner s (outer s)⟩
/-- new on a SEGMENT: not told yet -/
theorem puNw_iff {O : Nat → Nat → Prop} (hb : puGb O) {N s k j : Nat} (hk : k < N) (h : O s k) (hj : puLs (O s) k = (j : Int)) : puNw O s k ↔ ¬ (j, k) ∈ puEl O (puES O N s) s k := by
  have m := (puES_mem hb (N := N) s).2 k (by omega) j k
  have m1 := (puES_mem hb (N := N) s).1 j k
  rw [m, m1]
  constructor
  · rintro ⟨-, i, e, hn⟩ (⟨-, s', h1, h2⟩ | ⟨h1, -⟩)
    · have : i = j := by rw [hj] at e; omega
      subst this
      exact hn s' h1 ⟨h2.2.1, h2.2.2.1⟩
    · omega
  · intro q
    refine ⟨h, j, hj, fun s' hs' z => q (Or.inl ⟨hk, s', hs', hb s s' j k ((puLs_cs h).mp hj) z.1 z.2⟩)⟩
theorem puEl_len {O : Nat → Nat → Prop} {L : List (Nat × Nat)} {s : Nat} : ∀ k, (puEl O L s k).length ≤ L.length + k := by
  intro k
  induction k with
  | zero => exact Nat.le_refl _
  | succ k ih =>
    by_cases c : puNw O s k
    · have e : puEl O L s (k + 1) = puEl O L s k ++ [((puLs (O s) k).toNat, k)] := puE_pos c
      rw [e, List.length_append]; simp only [List.length_cons, List.length_nil]; omega
    · rw [puEl_n c]; omega
theorem puES_len {O : Nat → Nat → Prop} {N : Nat} : ∀ s, (puES O N s).length ≤ s * N := by
  intro s
  induction s with
  | zero => exact Nat.zero_le _
  | succ s ih =>
    have := puEl_len (O := O) (L := puES O N s) (s := s) N
    show (puEl O (puES O N s) s N).length ≤ _
    rw [Nat.succ_mul]; omega
def puDg (L : List (Nat × Nat)) (e : Nat) : Nat := L.countP (fun q => q.1 == e || q.2 == e)
theorem puDg_app (L : List (Nat × Nat)) (j k e : Nat) : puDg (L ++ [(j, k)]) e = puDg L e + if e = j ∨ e = k then 1 else 0 := by
  unfold puDg
  rw [List.countP_append, List.countP_singleton]
  congr 1
  by_cases c : e = j ∨ e = k
  · rw [if_pos c, if_pos (by rcases c with rfl | rfl <;> simp)]
  · rw [if_neg c, if_neg (by
      intro q
      simp only [Bool.or_eq_true, beq_iff_eq] at q
      rcases q with q | q
      · exact c (Or.inl q.symm)
      · exact c (Or.inr q.symm))]
theorem puDg_le (L : List (Nat × Nat)) (e : Nat) : puDg L e ≤ L.length := List.countP_le_length
/-- the picture's own -/
theorem puGb_O {n : Nat} {G : puG} (h : puOkP n G) : puGb (fun s k => k < (puCan n G).1 ∧ puO n G s k) := by
  obtain ⟨hv, he⟩ := h
  rintro s s' j k ⟨h1, ⟨j0, j1, j2⟩, ⟨k0, k1, k2⟩, h4⟩ ⟨-, s0, p1⟩ ⟨-, -, p2⟩
  refine ⟨h1, ⟨j0, s0, p1⟩, ⟨k0, s0, p2⟩, ?_⟩
  rintro i h5 h6 ⟨i0, -, p3⟩
  have ljk := he.1 j k h1 k0
  have ne : (puCan n G).2 j ≠ (puCan n G).2 k := fun e => by rw [e] at ljk; exact puLt_irr ljk
  refine h4 i h5 h6 ⟨i0, j1, puBetween (a := G s') (b := G s) ne p1.1 p2.1 p3.1 j2 k2 (puLe_of (he.1 j i h5 i0)) (puLe_of (he.1 i k h6 k0)) ?_⟩
  rintro ⟨w, hh⟩
  apply ne
  have m : ∀ {p}, puOn (G s') p → p = puA (G s') := by
    intro p hp
    obtain ⟨t, t0, t1, e1, e2⟩ := (puOn_t (hv.2 s' s0)).mp hp
    exact Prod.ext (by rw [e1, w]; unfold puA; grind) (by rw [e2, hh]; unfold puA; grind)
  rw [m p1, m p2]
