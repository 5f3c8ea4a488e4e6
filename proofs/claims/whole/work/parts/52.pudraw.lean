/-! PURE: the class draws: who touches whom, the points -/
def puTie (n : Nat) (t : Nat → Int32) (T : Nat → Nat → Prop) : Prop := ∀ s, s < n → puSt (t s) (T s)
theorem puTie_c {n : Nat} {t : Nat → Int32} {T U : Nat → Nat → Prop} (h : puTie n t T) (e : ∀ s i, s < n → i < 32 → (T s i ↔ U s i)) : puTie n t U := fun s hs => puSt_c (h s hs) (fun i hi => e s i hs hi)
theorem puTie_2 {n a b : Nat} {t : Nat → Int32} {T : Nat → Nat → Prop} (h : puTie n t T) (ha : a < n) (hb : b < n) (hn : n ≤ 24) (hab : a ≠ b) : puTie n (upd (upd t a (t a ||| ((1 : Int32) <<< (puI (b : Int) &&& 31)))) b ((upd t a (t a ||| ((1 : Int32) <<< (puI (b : Int) &&& 31)))) b ||| ((1 : Int32) <<< (puI (a : Int) &&& 31)))) (fun s i => T s i ∨ ((s = a ∧ i = b) ∨ (s = b ∧ i = a))) := by
  intro s hs
  by_cases e : s = b
  · rw [e, puUpd_eq, puUpd_ne (fun q => hab q.symm)]
    refine puSt_c (puSt_or (h b hb) (puSt_1 (s := a) (by omega))) (fun i _ => ?_)
    constructor
    · rintro (q | q)
      · exact Or.inl q
      · exact Or.inr (Or.inr ⟨rfl, q⟩)
    · rintro (q | ⟨q, -⟩ | ⟨-, q⟩)
      · exact Or.inl q
      · exact absurd q.symm hab
      · exact Or.inr q
  · rw [puUpd_ne e]
    by_cases e2 : s = a
    · rw [e2, puUpd_eq]
      refine puSt_c (puSt_or (h a ha) (puSt_1 (s := b) (by omega))) (fun i _ => ?_)
      constructor
      · rintro (q | q)
        · exact Or.inl q
        · exact Or.inr (Or.inl ⟨rfl, q⟩)
      · rintro (q | ⟨-, q⟩ | ⟨q, -⟩)
        · exact Or.inl q
        · exact Or.inr q
        · exact absurd q hab
    · rw [puUpd_ne e2]
      refine puSt_c (h s hs) (fun i _ => ⟨Or.inl, fun q => q.elim id (fun z => z.elim (fun w => absurd w.1 e2) (fun w => absurd w.1 e))⟩)
theorem p_note {n a b k : Nat} {t l : Nat → Int32} {m al : Int32} {T L : Nat → Nat → Prop} (ht : puTie n t T) (hl : puTie n l L) (ha : a < n) (hb : b < n) (hn : n ≤ 24) (hab : a ≠ b) (hk : k ≤ 2) :
    puOk (fX9_note t l m al (puI (a : Int)) (puI (b : Int)) (puI (k : Int))) (fun o => puTie n o.1 (fun s i => T s i ∨ (k ≠ 0 ∧ ((s = a ∧ i = b) ∨ (s = b ∧ i = a)))) ∧ puTie n o.2.1 (fun s i => L s i ∨ (k = 2 ∧ ((s = a ∧ i = b) ∨ (s = b ∧ i = a)))) ∧ o.2.2.1 = m + puI (if k = 1 then 1 else 0) ∧ o.2.2.2 = al + puI (if k = 2 then 1 else 0)) := by
  unfold fX9_note
  rw [show (0 : Int32) = puI ((0 : Nat) : Int) by rfl]
  by_cases k0 : k = 0
  · subst k0
    rw [xsBr_pos (by rfl)]
    refine puOk_some ⟨puTie_c ht (fun s i _ _ => ⟨Or.inl, fun q => q.elim id (fun z => absurd rfl z.1)⟩), puTie_c hl (fun s i _ _ => ⟨Or.inl, fun q => q.elim id (fun z => absurd z.1 (by decide))⟩), ?_, ?_⟩
    · show m = m + puI 0
      rw [show puI 0 = (0 : Int32) by rfl]; simp
    · show al = al + puI 0
      rw [show puI 0 = (0 : Int32) by rfl]; simp
  · rw [xsBr_neg (by rw [puI_eqN (by omega) (by omega)]; exact k0)]
    simp (disch := omega) only [xsCk_in, xsLt_eq, puI_clN]
    have t2 := puTie_c (puTie_2 ht ha hb hn hab) (U := fun s i => T s i ∨ (k ≠ 0 ∧ ((s = a ∧ i = b) ∨ (s = b ∧ i = a)))) (fun s i _ _ => ⟨fun q => q.imp id (fun z => ⟨k0, z⟩), fun q => q.imp id (fun z => z.2)⟩)
    by_cases k1 : k = 1
    · subst k1
      rw [xsBr_pos (by rfl)]
      refine puOk_some ⟨t2, puTie_c hl (fun s i _ _ => ⟨Or.inl, fun q => q.elim id (fun z => absurd z.1 (by decide))⟩), rfl, ?_⟩
      show al = al + puI 0
      rw [show puI 0 = (0 : Int32) by rfl]; simp
    · have k2 : k = 2 := by omega
      subst k2
      rw [xsBr_neg (by decide +kernel)]
      refine puOk_some ⟨t2, puTie_c (puTie_2 hl ha hb hn hab) (fun s i _ _ => ⟨fun q => q.imp id (fun z => ⟨rfl, z⟩), fun q => q.imp id (fun z => z.2)⟩), ?_, rfl⟩
      show m = m + puI 0
      rw [show puI 0 = (0 : Int32) by rfl]; simp
/-- the points of some of the SEGMENTS, and of some pairs -/
def puPk (G : puG) (E : Nat → Prop) (C : Nat → Nat → Prop) (p : puP) : Prop := (∃ s, E s ∧ (p = puA (G s) ∨ p = puZ (G s))) ∨ ∃ a b, C a b ∧ puKd (G a) (G b) = 1 ∧ p = puMp (G a) (G b)
theorem puPk_c {G : puG} {E F : Nat → Prop} {C D : Nat → Nat → Prop} (e : ∀ s, E s ↔ F s) (c : ∀ a b, C a b ↔ D a b) (p : puP) : puPk G E C p ↔ puPk G F D p := by
  unfold puPk
  simp only [e, c]
def puTri (a : Nat) : Nat := fb_sm (fun i => i) a
theorem puTri_s (a : Nat) : puTri (a + 1) = puTri a + a := rfl
theorem puTri_le {a : Nat} (h : a ≤ 24) : puTri a ≤ 276 := by
  have := fb_sm_mono (fun i => i) a (24 - a)
  rw [show a + (24 - a) = 24 by omega] at this
  exact Nat.le_trans this (by decide)
theorem puRep_A {q : puS} (v : puV q) : puRep (puJ q.1) (puJ q.2.1) (puJ 1) (puA q) := by
  obtain ⟨⟨b1, b2, b3, b4⟩, -, -⟩ := v
  exact ⟨_, _, 1, rfl, rfl, rfl, by omega, ⟨(Rat.mul_one _).symm, (Rat.mul_one _).symm⟩, by omega, by omega⟩
theorem puRep_Z {q : puS} (v : puV q) : puRep (puJ q.2.2.1) (puJ q.2.2.2.1) (puJ 1) (puZ q) := by
  obtain ⟨⟨b1, b2, b3, b4⟩, -, -⟩ := v
  exact ⟨_, _, 1, rfl, rfl, rfl, by omega, ⟨(Rat.mul_one _).symm, (Rat.mul_one _).symm⟩, by omega, by omega⟩
/-- who touches whom, as far as pairs were told: those below a, and a with those below j -/
def puTf (a j s i : Nat) : Prop := (s < a ∧ i < a ∧ s ≠ i) ∨ (s = a ∧ i < j) ∨ (i = a ∧ s < j)
/-- what stands of the picture at a with those below j -/
def puDr (n : Nat) (G : puG) (E : Nat → Prop) (a j b : Nat) (t l : Nat → Int32) (m al : Int32) (ex ey ed : Nat → Int64) (sz : Int32) : Prop :=
  puTie n t (fun s i => puTf a j s i ∧ puKd (G s) (G i) ≠ 0) ∧ puTie n l (fun s i => puTf a j s i ∧ puKd (G s) (G i) = 2) ∧
  m = puI ((puPr a (fun a b => puKd (G a) (G b) = 1) + puN (fun b => puKd (G a) (G b) = 1) j : Nat) : Int) ∧ al = puI ((puPr a (fun a b => puKd (G a) (G b) = 2) + puN (fun b => puKd (G a) (G b) = 2) j : Nat) : Int) ∧
  ∃ N P, sz = puI (N : Nat) ∧ puEvs N P ex ey ed ∧ puSo N P ∧ (∀ p, puMe N P p ↔ puPk G E (fun x y => (y < x ∧ x < a) ∨ (x = a ∧ y < j)) p) ∧ N ≤ b
theorem p_draw82 {n : Nat} {G : puG} {lx ly rx ry : Nat → Int32} (hv : puVal n G) (hk : puKW n G lx ly rx ry) {a : Nat} (ha : a < n) (E : Nat → Prop) {b0 : Nat} (hb0 : b0 + a ≤ 324)
    {k0 : Int32} {x0 y0 l0 : Int64} {f0 f1 f2 f3 : Int32} {t l : Nat → Int32} {m al : Int32} {ex ey ed : Nat → Int64} {sz : Int32} (h : puDr n G E a 0 b0 t l m al ex ey ed sz) :
    puOk (xsWh (fun s68 => fX5_draw_L82 lx ly rx ry (puI (a : Int)) s68.1 s68.2.1 s68.2.2.1 s68.2.2.2.1 s68.2.2.2.2.1 s68.2.2.2.2.2.1 s68.2.2.2.2.2.2.1 s68.2.2.2.2.2.2.2.1 s68.2.2.2.2.2.2.2.2.1 s68.2.2.2.2.2.2.2.2.2.1 s68.2.2.2.2.2.2.2.2.2.2.1 s68.2.2.2.2.2.2.2.2.2.2.2.1 s68.2.2.2.2.2.2.2.2.2.2.2.2.1 s68.2.2.2.2.2.2.2.2.2.2.2.2.2.1 s68.2.2.2.2.2.2.2.2.2.2.2.2.2.2.1 s68.2.2.2.2.2.2.2.2.2.2.2.2.2.2.2.1 s68.2.2.2.2.2.2.2.2.2.2.2.2.2.2.2.2) ((0 : Int32), k0, x0, y0, l0, f0, f1, f2, f3, t, l, m, al, ex, ey, ed, sz))
      (fun r => puDr n G E a a (b0 + a) r.2.2.2.2.2.2.2.2.1 r.2.2.2.2.2.2.2.2.2.1 r.2.2.2.2.2.2.2.2.2.2.1 r.2.2.2.2.2.2.2.2.2.2.2.1 r.2.2.2.2.2.2.2.2.2.2.2.2.1 r.2.2.2.2.2.2.2.2.2.2.2.2.2.1 r.2.2.2.2.2.2.2.2.2.2.2.2.2.2.1 r.2.2.2.2.2.2.2.2.2.2.2.2.2.2.2) := by
  have hn := hv.1
  refine puFor1 a (fun j z => z.1 = puI (j : Int) ∧ puDr n G E a j (b0 + j) z.2.2.2.2.2.2.2.2.2.1 z.2.2.2.2.2.2.2.2.2.2.1 z.2.2.2.2.2.2.2.2.2.2.2.1 z.2.2.2.2.2.2.2.2.2.2.2.2.1 z.2.2.2.2.2.2.2.2.2.2.2.2.2.1 z.2.2.2.2.2.2.2.2.2.2.2.2.2.2.1 z.2.2.2.2.2.2.2.2.2.2.2.2.2.2.2.1 z.2.2.2.2.2.2.2.2.2.2.2.2.2.2.2.2) _ ⟨rfl, h⟩ ?_ ?_
  · rintro j ⟨jj, k0, x0, y0, l0, f0, f1, f2, f3, t, l, m, al, ex, ey, ed, sz⟩ hj ⟨rfl, h1, h2, h3, h4, N, P, h5, h6, h7, h8, h9⟩
    simp only at h1 h2 h3 h4 h5 h6 h7 h8 h9
    subst h5
    simp only [fX5_draw_L82]
    rw [xsBr_neg (by rw [puI_leN (by omega) (by omega)]; omega)]
    have vb := hv.2 j (by omega); have va := hv.2 a ha
    obtain ⟨o, eo, so⟩ := p_study (hk a ha) (hk j (by omega)) va vb (by omega) (by omega) (k0 := k0) (x0 := x0) (y0 := y0) (l0 := l0) (c0 := f0) (c1 := f1) (c2 := f2) (c3 := f3)
    rw [xsBd_some eo, so.1]
    have kl := puKd_le (G a) (G j)
    obtain ⟨o2, eo2, t1, t2, t3, t4⟩ := p_note (k := puKd (G a) (G j)) (m := m) (al := al) h1 h2 ha (show j < n by omega) hn (by omega) kl
    rw [xsBd_some eo2]
    have ksym : ∀ s i, ((s = a ∧ i = j) ∨ (s = j ∧ i = a)) → puKd (G s) (G i) = puKd (G a) (G j) := by
      rintro s i (⟨rfl, rfl⟩ | ⟨rfl, rfl⟩)
      · rfl
      · exact puKd_sym vb va
    have tf : ∀ s i, puTf a (j + 1) s i ↔ puTf a j s i ∨ ((s = a ∧ i = j) ∨ (s = j ∧ i = a)) := by
      intro s i; unfold puTf; omega
    have r1 : puTie n o2.1 (fun s i => puTf a (j + 1) s i ∧ puKd (G s) (G i) ≠ 0) := puTie_c t1 (fun s i _ _ => by
      rw [tf]
      constructor
      · rintro (q | ⟨q1, q2⟩)
        · exact ⟨Or.inl q.1, q.2⟩
        · exact ⟨Or.inr q2, by rw [ksym s i q2]; exact q1⟩
      · rintro ⟨q1 | q1, q2⟩
        · exact Or.inl ⟨q1, q2⟩
        · exact Or.inr ⟨by rw [ksym s i q1] at q2; exact q2, q1⟩)
    have r2 : puTie n o2.2.1 (fun s i => puTf a (j + 1) s i ∧ puKd (G s) (G i) = 2) := puTie_c t2 (fun s i _ _ => by
      rw [tf]
      constructor
      · rintro (q | ⟨q1, q2⟩)
        · exact ⟨Or.inl q.1, q.2⟩
        · exact ⟨Or.inr q2, by rw [ksym s i q2]; exact q1⟩
      · rintro ⟨q1 | q1, q2⟩
        · exact Or.inl ⟨q1, q2⟩
        · exact Or.inr ⟨by rw [ksym s i q1] at q2; exact q2, q1⟩)
    have r3 : o2.2.2.1 = puI ((puPr a (fun a b => puKd (G a) (G b) = 1) + puN (fun b => puKd (G a) (G b) = 1) (j + 1) : Nat) : Int) := by
      rw [t3, h3, puN_s, puI_add]
      by_cases c : puKd (G a) (G j) = 1
      · rw [if_pos c, puE_pos c]; congr 1
      · rw [if_neg c, puE_neg c]; congr 1
    have r4 : o2.2.2.2 = puI ((puPr a (fun a b => puKd (G a) (G b) = 2) + puN (fun b => puKd (G a) (G b) = 2) (j + 1) : Nat) : Int) := by
      rw [t4, h4, puN_s, puI_add]
      by_cases c : puKd (G a) (G j) = 2
      · rw [if_pos c, puE_pos c]; congr 1
      · rw [if_neg c, puE_neg c]; congr 1
    by_cases c : puKd (G a) (G j) = 1
    · rw [xsBr_pos (by rw [c]; rfl)]
      obtain ⟨o3, eo3, M, Q, g1, g2, g3, g4, g5⟩ := p_insert h6 h7 (so.2.1 c) (show N < 324 by omega)
      rw [xsBd_some eo3, xsBd_sm]
      simp only [fX5_draw_J153]
      rw [xsLt_eq, puI_s1]
      refine ⟨_, rfl, rfl, r1, r2, r3, r4, M, Q, g1, g2, g3, fun p => ?_, by omega⟩
      rw [g4, h8]
      unfold puPk
      constructor
      · rintro (q | q | ⟨x, y, q1, q2, q3⟩)
        · exact Or.inr ⟨a, j, Or.inr ⟨rfl, by omega⟩, c, q⟩
        · exact Or.inl q
        · exact Or.inr ⟨x, y, by omega, q2, q3⟩
      · rintro (q | ⟨x, y, q1, q2, q3⟩)
        · exact Or.inr (Or.inl q)
        · by_cases e : x = a ∧ y = j
          · obtain ⟨rfl, rfl⟩ := e; exact Or.inl q3
          · exact Or.inr (Or.inr ⟨x, y, by omega, q2, q3⟩)
    · rw [xsBr_neg (by rw [show (1 : Int32) = puI ((1 : Nat) : Int) by rfl, puI_eqN (by omega) (by omega)]; exact c), xsBd_sm]
      simp only [fX5_draw_J153]
      rw [xsLt_eq, puI_s1]
      refine ⟨_, rfl, rfl, r1, r2, r3, r4, N, P, rfl, h6, h7, fun p => ?_, by omega⟩
      rw [h8]
      unfold puPk
      constructor
      · rintro (q | ⟨x, y, q1, q2, q3⟩)
        · exact Or.inl q
        · exact Or.inr ⟨x, y, by omega, q2, q3⟩
      · rintro (q | ⟨x, y, q1, q2, q3⟩)
        · exact Or.inl q
        · by_cases e : x = a ∧ y = j
          · obtain ⟨rfl, rfl⟩ := e; exact absurd q2 c
          · exact Or.inr ⟨x, y, by omega, q2, q3⟩
  · rintro ⟨jj, k0, x0, y0, l0, f0, f1, f2, f3, t, l, m, al, ex, ey, ed, sz⟩ ⟨rfl, h⟩
    simp only [fX5_draw_L82]
    rw [xsBr_pos (by rw [puI_leN (by omega) (by omega)]; omega)]
    exact ⟨_, rfl, h⟩
