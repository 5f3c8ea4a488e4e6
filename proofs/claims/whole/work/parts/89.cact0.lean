/-! PURE: the readers of texts: runs, words -/
noncomputable def ac_r (P : Nat → Prop) : Nat → Nat → Nat
  | 0, p => p
  | f + 1, p => puE (P p) (ac_r P f (p + 1)) p
noncomputable def ac_run (P : Nat → Prop) (L p : Nat) : Nat := ac_r P (L - p) p
theorem ac_of {P : Nat → Prop} {L p q : Nat} (h1 : p ≤ q) (h2 : q ≤ L) (h3 : ∀ i, p ≤ i → i < q → P i) (h4 : q = L ∨ ¬ P q) : ac_run P L p = q := by
  have key : ∀ f p, p + f = L → p ≤ q → (∀ i, p ≤ i → i < q → P i) → ac_r P f p = q := by
    intro f
    induction f with
    | zero => intro p e h1 _; show p = q; omega
    | succ f ih =>
      intro p e h1 h3
      show puE (P p) (ac_r P f (p + 1)) p = q
      by_cases c : p = q
      · subst c
        rw [puE_neg (h4.resolve_left (by omega))]
      · rw [puE_pos (h3 p (Nat.le_refl _) (by omega))]
        exact ih (p + 1) (by omega) (by omega) (fun i i1 i2 => h3 i (by omega) i2)
  exact key (L - p) p (by omega) h1 h3
theorem ac_spec {P : Nat → Prop} {L p : Nat} (hp : p ≤ L) : p ≤ ac_run P L p ∧ ac_run P L p ≤ L ∧ (∀ i, p ≤ i → i < ac_run P L p → P i) ∧ (ac_run P L p = L ∨ ¬ P (ac_run P L p)) := by
  have key : ∀ f p, p + f = L → ∃ q, p ≤ q ∧ q ≤ L ∧ (∀ i, p ≤ i → i < q → P i) ∧ (q = L ∨ ¬ P q) := by
    intro f
    induction f with
    | zero => exact fun p e => ⟨p, Nat.le_refl _, by omega, fun i i1 i2 => by omega, Or.inl (by omega)⟩
    | succ f ih =>
      intro p e
      by_cases c : P p
      · obtain ⟨q, q1, q2, q3, q4⟩ := ih (p + 1) (by omega)
        refine ⟨q, by omega, q2, fun i i1 i2 => ?_, q4⟩
        by_cases d : i = p
        · rw [d]; exact c
        · exact q3 i (by omega) i2
      · exact ⟨p, Nat.le_refl _, by omega, fun i i1 i2 => by omega, Or.inr c⟩
  obtain ⟨q, q1, q2, q3, q4⟩ := key (L - p) p (by omega)
  rw [ac_of q1 q2 q3 q4]
  exact ⟨q1, q2, q3, q4⟩
theorem ac_idem {P : Nat → Prop} {L p : Nat} (hp : p ≤ L) : ac_run P L (ac_run P L p) = ac_run P L p := by
  obtain ⟨-, h2, -, h4⟩ := ac_spec (P := P) hp
  exact ac_of (Nat.le_refl _) h2 (fun i i1 i2 => by omega) h4
theorem ac_loop {step : Int32 → Option (Int32 ⊕ Int32)} {P : Nat → Prop} {L : Nat} (h1 : ∀ k, k < L → P k → step (puI (k : Int)) = some (.inl (puI ((k + 1 : Nat) : Int)))) (h2 : ∀ k, k ≤ L → (k = L ∨ ¬ P k) → step (puI (k : Int)) = some (.inr (puI (k : Int)))) {p : Nat} (hp : p ≤ L) : xsWh step (puI (p : Int)) = some (puI (ac_run P L p : Int)) := by
  have key : puOk (xsWh step (puI (p : Int))) (fun r => r = puI (ac_run P L p : Int)) := by
    refine puFor L (fun k z => z = puI (k : Int) ∧ p ≤ k ∧ ∀ i, p ≤ i → i < k → P i) _ ?_ ?_ p _ hp ⟨rfl, Nat.le_refl _, fun i i1 i2 => by omega⟩
    · rintro k z hk ⟨rfl, q1, q2⟩
      by_cases c : P k
      · refine Or.inl ⟨_, h1 k hk c, rfl, by omega, fun i i1 i2 => ?_⟩
        by_cases d : i = k
        · rw [d]; exact c
        · exact q2 i i1 (by omega)
      · exact Or.inr ⟨_, h2 k (by omega) (Or.inr c), by rw [ac_of q1 (by omega) q2 (Or.inr c)]⟩
    · rintro z ⟨rfl, q1, q2⟩
      exact ⟨_, h2 L (Nat.le_refl _) (Or.inl rfl), by rw [ac_of q1 (Nat.le_refl _) q2 (Or.inl rfl)]⟩
  obtain ⟨r, er, rfl⟩ := key
  exact er
/-- a byte within bounds -/
def ac_P (tp : Nat → Int32) (a b : Int32) (i : Nat) : Prop := a ≤ tp i ∧ tp i ≤ b
theorem ac_P1 {tp : Nat → Int32} {a : Int32} {i : Nat} : ac_P tp a a i ↔ tp i = a :=
  ⟨fun h => Int32.le_antisymm h.2 h.1, fun h => by unfold ac_P; rw [h]; exact ⟨Int32.le_refl _, Int32.le_refl _⟩⟩
theorem p_isAt {tp : Nat → Int32} {L k : Nat} {a b : Int32} (hL : L ≤ 400) (hk : k ≤ 1000) : fX11_isAt tp (puI (k : Int)) (puI (L : Int)) a b = some (puB (k < L ∧ ac_P tp a b k)) := by
  unfold fX11_isAt
  by_cases c : L ≤ k
  · rw [xsBr_pos ((puI_leN (by omega) (by omega)).mpr c), puB_neg (fun q => by omega)]
  rw [xsBr_neg (fun q => c ((puI_leN (by omega) (by omega)).mp q)), xsCk_in (by omega) (by omega) (by omega), puI_clN (by omega)]
  by_cases d : tp k < a
  · rw [xsBr_pos d, puB_neg (fun q => Int32.not_lt.mpr q.2.1 d)]
  rw [xsBr_neg d, xsCk_in (by omega) (by omega) (by omega)]
  by_cases e : b < tp k
  · rw [xsBr_pos e, puB_neg (fun q => Int32.not_lt.mpr q.2.2 e)]
  · rw [xsBr_neg e, puB_pos ⟨by omega, Int32.not_lt.mp d, Int32.not_lt.mp e⟩]
noncomputable def ac_s (tp : Nat → Int32) (L p : Nat) : Nat := ac_run (ac_P tp 32 32) L p
noncomputable def ac_l (tp : Nat → Int32) (L p : Nat) : Nat := ac_run (ac_P tp 97 122) L p
noncomputable def ac_d (tp : Nat → Int32) (L p : Nat) : Nat := ac_run (ac_P tp 48 57) L p
theorem p_skip {by0 tp : Nat → Int32} {L p : Nat} (hL : L ≤ 400) (hb : ∀ i, i < L → by0 i = tp i) (hp : p ≤ L) : fX6_skipBlanks by0 (puI (L : Int)) (puI (p : Int)) = some (puI (ac_s tp L p : Int)) := by
  unfold fX6_skipBlanks
  rw [ac_loop (P := ac_P tp 32 32) (L := L) (fun k hk hP => by
    simp only [fX6_skipBlanks_L0]
    rw [xsBr_neg (fun q => by rw [puI_leN (by omega) (by omega)] at q; omega), xsCk_in (by omega) (by omega) (by omega), puI_clN (by omega), hb k hk, xsBr_pos (ac_P1.mp hP), xsLt_eq, puI_s1]) (fun k hk hP => by
    simp only [fX6_skipBlanks_L0]
    by_cases c : k = L
    · rw [xsBr_pos ((puI_leN (by omega) (by omega)).mpr (by omega))]
    · rw [xsBr_neg (fun q => by rw [puI_leN (by omega) (by omega)] at q; omega), xsCk_in (by omega) (by omega) (by omega), puI_clN (by omega), hb k (by omega), xsBr_neg (fun q => (hP.resolve_left c) (ac_P1.mpr q))]) hp, xsBd_sm]
  rfl
theorem p_blanks {tp : Nat → Int32} {L p : Nat} {bg : Int32} (hL : L ≤ 400) (hp : p ≤ L) : fX11_blanks tp (puI (p : Int)) (puI (L : Int)) bg = some (puI (ac_s tp L p : Int), puI (ac_s tp L p : Int)) := by
  unfold fX11_blanks
  rw [ac_loop (P := ac_P tp 32 32) (L := L) (fun k hk hP => by
    simp only [fX11_blanks_L0]
    rw [p_isAt hL (by omega), xsBd_sm, pu_bt ⟨hk, hP⟩, xsLt_eq, puI_s1]) (fun k hk hP => by
    simp only [fX11_blanks_L0]
    rw [p_isAt hL (by omega), xsBd_sm, pu_bf (fun q => by
      rcases hP with h | h
      · omega
      · exact h q.2)]) hp, xsBd_sm]
  rfl
theorem p_letters {tp : Nat → Int32} {L p : Nat} {bg : Int32} (hL : L ≤ 400) (hp : p ≤ L) : fX11_letters tp (puI (p : Int)) (puI (L : Int)) bg = some (puI (ac_l tp L (ac_s tp L p) : Int), puI (ac_s tp L p : Int)) := by
  unfold fX11_letters
  rw [p_blanks hL hp, xsBd_sm]
  dsimp only
  rw [ac_loop (P := ac_P tp 97 122) (L := L) (fun k hk hP => by
    simp only [fX11_letters_L4]
    rw [p_isAt hL (by omega), xsBd_sm, pu_bt ⟨hk, hP⟩, xsLt_eq, puI_s1]) (fun k hk hP => by
    simp only [fX11_letters_L4]
    rw [p_isAt hL (by omega), xsBd_sm, pu_bf (fun q => by
      rcases hP with h | h
      · omega
      · exact h q.2)]) (show ac_s tp L p ≤ L from (ac_spec hp).2.1), xsBd_sm]
  rfl
/-- the word there is one of the words -/
def ac_w (tp : Nat → Int32) (ks o e : Nat) : Prop := e - o = xsLen ks ∧ ∀ j, j < xsLen ks → tp (o + j) = xsChr ks j
theorem ac_len (ks : Nat) : xsLen ks ≤ 4 := by
  rcases (show ks = 0 ∨ ks = 1 ∨ ks = 2 ∨ ks = 3 ∨ ks = 4 ∨ ks = 5 ∨ 6 ≤ ks by omega) with h | h | h | h | h | h | h
  all_goals first | (subst h; decide) | skip
  show [3, 4, 3, 4, 2, 4].getD ks 0 ≤ 4
  rw [List.getD_eq_getElem?_getD, List.getElem?_eq_none (show [3, 4, 3, 4, 2, 4].length ≤ ks from h)]
  decide
theorem p_isWord {tp : Nat → Int32} {ks o e : Nat} (ho : o ≤ e) (he : e ≤ 400) : fX11_isWord tp (puI (e : Int)) (puI (o : Int)) ks = some (puB (ac_w tp ks o e)) := by
  have hl := ac_len ks
  unfold fX11_isWord
  rw [puI_sub, show (e : Int) - (o : Int) = ((e - o : Nat) : Int) by omega, puI_nI, xsBr_iff (puI_eqN (by omega) (by omega)), xsBr_10, xsBd_sm]
  unfold fX11_isWord_J21
  have key : puOk (xsWh (fun s4 => fX11_isWord_L24 tp (puI (o : Int)) ks s4.1 s4.2) (puB (e - o = xsLen ks), (0 : Int32))) (fun r => r = puB (ac_w tp ks o e)) := by
    by_cases c : e - o = xsLen ks
    case neg =>
      refine ⟨_, xsWh_exit (r := (0 : Int32)) ?_, ?_⟩
      · simp only [fX11_isWord_L24]
        rw [puB_neg c, xsBr_pos rfl]
      · exact (puB_neg (fun q => c q.1)).symm
    refine puFor (xsLen ks) (fun k z => z.1 = puB (∀ j, j < k → tp (o + j) = xsChr ks j) ∧ z.2 = puI (k : Int)) _ ?_ ?_ 0 _ (Nat.zero_le _) ⟨by rw [puB_pos c]; exact (puB_pos (fun j hj => absurd hj (Nat.not_lt_zero _))).symm, rfl⟩
    · rintro k ⟨y2, y3⟩ hk ⟨q1, q2⟩
      simp only at q1 q2
      subst q1
      subst q2
      simp only [fX11_isWord_L24]
      by_cases d : ∀ j, j < k → tp (o + j) = xsChr ks j
      case neg =>
        rw [pu_bf d]
        exact Or.inr ⟨_, rfl, by rw [puB_neg d]; exact (puB_neg (fun q => d (fun j hj => q.2 j (by omega)))).symm⟩
      rw [pu_bt d, puI_nI, xsBr_neg (fun q => by rw [puI_leN (by omega) (by omega)] at q; omega), puI_add, show (o : Int) + (k : Int) = ((o + k : Nat) : Int) by omega, xsCk_in (by omega) (by omega) (by omega), xsCk_in (by omega) (by omega) (by omega), puI_clN (by omega), puI_clN (by omega), xsBr_10, xsBd_sm]
      simp only [fX11_isWord_J60]
      rw [xsLt_eq, puI_s1]
      refine Or.inl ⟨_, rfl, puB_iff ⟨fun q j hj => ?_, fun q => q k (by omega)⟩, rfl⟩
      by_cases f : j = k
      · rw [f]; exact q
      · exact d j (by omega)
    · rintro ⟨y2, y3⟩ ⟨q1, q2⟩
      simp only at q1 q2
      subst q1
      subst q2
      simp only [fX11_isWord_L24]
      by_cases d : ∀ j, j < xsLen ks → tp (o + j) = xsChr ks j
      case neg =>
        rw [pu_bf d]
        exact ⟨_, rfl, by rw [puB_neg d]; exact (puB_neg (fun q => d q.2)).symm⟩
      rw [pu_bt d, puI_nI, xsBr_pos (Int32.le_refl _)]
      exact ⟨_, rfl, by rw [puB_pos d]; exact (puB_pos ⟨c, d⟩).symm⟩
  obtain ⟨r, er, rfl⟩ := key
  rw [xsBd_some er]
  unfold fX11_isWord_J67
  rw [xsCk_pos (puB_xsB _)]
theorem p_readWord {by0 tp : Nat → Int32} {L p ks : Nat} (hL : L ≤ 400) (hb : ∀ i, i < L → by0 i = tp i) (hp : p ≤ L) : fX6_readWord by0 (puI (L : Int)) (puI (p : Int)) ks = some (puB (ac_w tp ks (ac_s tp L p) (ac_l tp L (ac_s tp L p))), puE (ac_w tp ks (ac_s tp L p) (ac_l tp L (ac_s tp L p))) (puI (ac_l tp L (ac_s tp L p) : Int)) (puI (ac_s tp L p : Int))) := by
  have hl := ac_len ks
  unfold fX6_readWord
  rw [p_skip hL hb hp, xsBd_sm]
  have ho : ac_s tp L p ≤ L := (ac_spec hp).2.1
  generalize ac_s tp L p = o at ho ⊢
  obtain ⟨s1, s2, s3, s4⟩ := ac_spec (P := ac_P tp 97 122) ho
  have key : puOk (xsWh (fun s5 => fX6_readWord_L11 by0 (puI (L : Int)) ks (puI (o : Int)) s5.1 s5.2) (puI (o : Int), (1 : Int32))) (fun r => r.1 = puI (ac_l tp L o : Int) ∧ r.2 = puB (∀ j, o + j < ac_l tp L o → j < xsLen ks ∧ tp (o + j) = xsChr ks j)) := by
    refine puFor L (fun k z => o ≤ k ∧ (∀ i, o ≤ i → i < k → ac_P tp 97 122 i) ∧ z.1 = puI (k : Int) ∧ z.2 = puB (∀ j, o + j < k → j < xsLen ks ∧ tp (o + j) = xsChr ks j)) _ ?_ ?_ o _ ho ⟨Nat.le_refl _, fun i i1 i2 => by omega, rfl, (puB_pos (fun j hj => by omega)).symm⟩
    · rintro k ⟨y3, y4⟩ hk ⟨q0, q1, q2, q3⟩
      simp only at q0 q1 q2 q3
      subst q2
      subst q3
      simp only [fX6_readWord_L11]
      rw [xsBr_neg (fun q => by rw [puI_leN (by omega) (by omega)] at q; omega), xsCk_in (by omega) (by omega) (by omega), puI_clN (by omega), hb k hk]
      by_cases c : tp k < 97
      · rw [xsBr_pos c]
        have e : ac_l tp L o = k := ac_of q0 (by omega) q1 (Or.inr (fun q => Int32.not_lt.mpr q.1 c))
        rw [e]
        exact Or.inr ⟨_, rfl, rfl, rfl⟩
      rw [xsBr_neg c, xsCk_in (by omega) (by omega) (by omega)]
      by_cases d : 122 < tp k
      · rw [xsBr_pos d]
        have e : ac_l tp L o = k := ac_of q0 (by omega) q1 (Or.inr (fun q => Int32.not_lt.mpr q.2 d))
        rw [e]
        exact Or.inr ⟨_, rfl, rfl, rfl⟩
      have go : ∀ z : Int32, z = puB (∀ j, o + j < k + 1 → j < xsLen ks ∧ tp (o + j) = xsChr ks j) → ∃ s', fX6_readWord_J82 (puI (k : Int)) z = some (.inl s') ∧ o ≤ k + 1 ∧ (∀ i, o ≤ i → i < k + 1 → ac_P tp 97 122 i) ∧ s'.1 = puI ((k + 1 : Nat) : Int) ∧ s'.2 = puB (∀ j, o + j < k + 1 → j < xsLen ks ∧ tp (o + j) = xsChr ks j) := by
        intro z hz
        simp only [fX6_readWord_J82]
        rw [xsLt_eq, puI_s1]
        refine ⟨_, rfl, by omega, fun i i1 i2 => ?_, rfl, hz⟩
        by_cases f : i = k
        · rw [f]; exact ⟨Int32.not_lt.mp c, Int32.not_lt.mp d⟩
        · exact q1 i i1 (by omega)
      rw [xsBr_neg d, xsLt_eq, puI_sub, show (k : Int) - (o : Int) = ((k - o : Nat) : Int) by omega, puI_nI]
      left
      by_cases f : ∀ j, o + j < k → j < xsLen ks ∧ tp (o + j) = xsChr ks j
      case neg =>
        rw [pu_bf f, xsBd_sm]
        exact go 0 (puB_neg (fun q => f (fun j hj => q j (by omega)))).symm
      rw [pu_bt f]
      by_cases g : xsLen ks ≤ k - o
      · rw [xsBr_pos ((puI_leN (by omega) (by omega)).mpr g), xsBd_sm]
        exact go 0 (puB_neg (fun q => by have := (q (k - o) (by omega)).1; omega)).symm
      rw [xsBr_neg (fun q => g ((puI_leN (by omega) (by omega)).mp q)), xsCk_in (by omega) (by omega) (by omega), xsCk_in (by omega) (by omega) (by omega), puI_clN (by omega), xsBr_10, xsBd_sm]
      refine go _ (puB_iff ⟨fun q j hj => ?_, fun q => ?_⟩)
      · by_cases y : o + j = k
        · rw [y, ← q, show j = k - o by omega]; exact ⟨by omega, rfl⟩
        · exact f j (by omega)
      · have := (q (k - o) (by omega)).2
        rw [show o + (k - o) = k by omega] at this
        exact this.symm
    · rintro ⟨y3, y4⟩ ⟨q0, q1, q2, q3⟩
      simp only at q0 q1 q2 q3
      subst q2
      subst q3
      simp only [fX6_readWord_L11]
      rw [xsBr_pos (Int32.le_refl _)]
      have e : ac_l tp L o = L := ac_of q0 (Nat.le_refl _) q1 (Or.inl rfl)
      rw [e]
      exact ⟨_, rfl, rfl, rfl⟩
  obtain ⟨⟨r1, r2⟩, er, e1, e2⟩ := key
  simp only at e1 e2
  subst e1
  subst e2
  rw [xsBd_some er]
  unfold fX6_readWord_J89
  have le : ac_l tp L o ≤ L := s2
  have og : o ≤ ac_l tp L o := s1
  by_cases f : ∀ j, o + j < ac_l tp L o → j < xsLen ks ∧ tp (o + j) = xsChr ks j
  case neg =>
    have nw : ¬ ac_w tp ks o (ac_l tp L o) := fun q => f (fun j hj => ⟨by have := q.1; omega, q.2 j (by have := q.1; omega)⟩)
    rw [pu_bf f, puB_neg nw, puE_neg nw]
  rw [pu_bt f, puI_sub, show (ac_l tp L o : Int) - (o : Int) = ((ac_l tp L o - o : Nat) : Int) by omega, puI_nI]
  by_cases g : ac_l tp L o - o = xsLen ks
  · have w : ac_w tp ks o (ac_l tp L o) := ⟨g, fun j hj => (f j (by omega)).2⟩
    rw [xsBr_pos (by rw [g]), puB_pos w, puE_pos w]
  · have nw : ¬ ac_w tp ks o (ac_l tp L o) := fun q => g q.1
    rw [xsBr_neg (fun q => g ((puI_eqN (by omega) (by omega)).mp q)), puB_neg nw, puE_neg nw]
