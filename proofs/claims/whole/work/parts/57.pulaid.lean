/-! PURE: the reference lays its picture: who has each, which are crossings, edges -/
theorem p_laysBundle {n : Nat} {G : puG} {w : Nat → Int32} (hv : puVal n G) (hw : puMW n G w) {N : Nat} {P : Nat → puP} {ex ey ed : Nat → Int64} (he : puEvs N P ex ey ed) (hN : N ≤ 324) {k : Nat} (hk : k < N) {one bu : Nat → Int32} (hb : bu k = 0) :
    puOk (xsWh (fun s74 => fX11_lays_L166 w ex ey ed (puI (k : Int)) s74.1 s74.2.1 s74.2.2) ((0 : Int32), one, bu)) (fun r => puSt (r.2 k) (fun s => s < n ∧ puOn (G s) (P k)) ∧ ∀ j, j ≠ k → r.2 j = bu j) := by
  have hn := hv.1
  refine puFor1 n (fun s z => z.1 = puI (s : Int) ∧ puSt (z.2.2 k) (fun i => i < s ∧ puOn (G i) (P k)) ∧ ∀ j, j ≠ k → z.2.2 j = bu j) _ ⟨rfl, by dsimp only; rw [hb]; exact puSt_c puSt_0 (fun i _ => ⟨fun q => q.elim, fun q => absurd q.1 (by omega)⟩), fun _ _ => rfl⟩ ?_ ?_
  · rintro s ⟨i, one, b2⟩ hs ⟨rfl, h1, h2⟩
    simp only at h1 h2
    simp only [fX11_lays_L166]
    obtain ⟨o, eo, ho⟩ := p_has hv hw he hs hk (by omega) (one := one)
    rw [p_many hw, xsBd_sm, xsBr_neg (by rw [puI_leN (by omega) (by omega)]; omega), xsCk_in (by omega) (by omega) (by omega), xsBd_some eo, ho]
    have fin : ∀ v : Int32, puSt v (fun i => i = s ∧ puOn (G s) (P k)) → ∃ s', fX11_lays_J197 (puI (k : Int)) (puI (s : Int)) b2 o v = some (.inl s') ∧ s'.1 = puI ((s + 1 : Nat) : Int) ∧ puSt (s'.2.2 k) (fun i => i < s + 1 ∧ puOn (G i) (P k)) ∧ ∀ j, j ≠ k → s'.2.2 j = bu j := by
      intro v hv'
      simp only [fX11_lays_J197]
      rw [xsCk_in (by omega) (by omega) (by omega), xsLt_eq, xsLt_eq, puI_clN (by omega), puI_s1]
      refine ⟨_, rfl, rfl, ?_, fun j hj => ?_⟩
      · dsimp only
        rw [puUpd_eq]
        refine puSt_c (puSt_or h1 hv') (fun i _ => ?_)
        constructor
        · rintro (q | ⟨rfl, q⟩)
          · exact ⟨by omega, q.2⟩
          · exact ⟨by omega, q⟩
        · rintro ⟨q1, q2⟩
          by_cases e : i = s
          · subst e; exact Or.inr ⟨rfl, q2⟩
          · exact Or.inl ⟨by omega, q2⟩
      · dsimp only; rw [puUpd_ne hj]; exact h2 j hj
    by_cases c : puOn (G s) (P k)
    · rw [xsBr_neg (by rw [puB_pos c]; decide), xsBd_sm]
      exact fin _ (puSt_c (puSt_1 (s := s) (by omega)) (fun i _ => ⟨fun q => ⟨q, c⟩, fun q => q.1⟩))
    · rw [xsBr_pos (by rw [puB_neg c]), xsBd_sm]
      exact fin _ (puSt_c puSt_0 (fun i _ => ⟨fun q => q.elim, fun q => absurd q.2 c⟩))
  · rintro ⟨i, one, b2⟩ ⟨rfl, h1, h2⟩
    simp only [fX11_lays_L166]
    rw [p_many hw, xsBd_sm, xsBr_pos (by rw [puI_leN (by omega) (by omega)]; omega)]
    exact ⟨_, rfl, h1, h2⟩
theorem p_lays142 {n : Nat} {G : puG} {w : Nat → Int32} (hv : puVal n G) (hw : puMW n G w) {N : Nat} {P : Nat → puP} {ex ey ed : Nat → Int64} (he : puEvs N P ex ey ed) (hN : N ≤ 324) {C : Nat → Prop} {one cr bu eo de : Nat → Int32} (hc : ∀ e, e < N → cr e = puE (C e) (0 : Int32) (-1 : Int32)) :
    puOk (xsWh (fun s44 => fX11_lays_L142 w ex ey ed (puI (N : Int)) s44.1 s44.2.1 s44.2.2.1 s44.2.2.2.1 s44.2.2.2.2.1 s44.2.2.2.2.2.1 s44.2.2.2.2.2.2) ((0 : Int32), one, cr, bu, eo, de, (0 : Int32))) (fun r => (∀ k, k < N → puSt (r.2.2.1 k) (fun s => s < n ∧ puOn (G s) (P k))) ∧ (∀ k, k < N → r.2.1 k = puI (puXo C k)) ∧ puEo C N r.2.2.2.1 ∧ (∀ k, k < N → r.2.2.2.2.1 k = 0) ∧ r.2.2.2.2.2 = puI (puN C N : Int)) := by
  refine puFor1 N (fun m z => z.1 = puI (m : Int) ∧ (∀ k, k < m → puSt (z.2.2.2.1 k) (fun s => s < n ∧ puOn (G s) (P k))) ∧ (∀ k, k < m → z.2.2.1 k = puI (puXo C k)) ∧ (∀ k, m ≤ k → k < N → z.2.2.1 k = puE (C k) (0 : Int32) (-1 : Int32)) ∧ puEo C m z.2.2.2.2.1 ∧ (∀ k, k < m → z.2.2.2.2.2.1 k = 0) ∧ z.2.2.2.2.2.2 = puI (puN C m : Int)) _ ⟨rfl, fun k hk => by omega, fun k hk => by omega, fun k _ hk => hc k hk, fun k hk => by omega, fun k hk => by omega, rfl⟩ ?_ ?_
  · rintro m ⟨i, one, cr, bu, eo, de, c⟩ hm ⟨rfl, h1, h2, h3, h4, h5, h6⟩
    simp only at h1 h2 h3 h4 h5 h6
    subst h6
    have bn := puN_le C m
    simp only [fX11_lays_L142]
    obtain ⟨r, er, r1, r2⟩ := p_laysBundle hv hw he hN hm (one := one) (bu := upd bu m 0) (puUpd_eq _ _ _)
    rw [xsBr_neg (by rw [puI_leN (by omega) (by omega)]; omega), xsCk_in (by omega) (by omega) (by omega), xsLt_eq, xsCk_in (by omega) (by omega) (by omega), xsLt_eq, puI_clN (by omega), xsBd_some er]
    have s1 : ∀ k, k < m + 1 → puSt (r.2 k) (fun s => s < n ∧ puOn (G s) (P k)) := by
      intro k hk
      by_cases e : k = m
      · subst e; exact r1
      · rw [r2 k e, puUpd_ne e]; exact h1 k (by omega)
    have s2 : ∀ k, k < m + 1 → upd de m 0 k = 0 := by
      intro k hk
      by_cases e : k = m
      · rw [e, puUpd_eq]
      · rw [puUpd_ne e]; exact h5 k (by omega)
    have hcm := h3 m (Nat.le_refl _) hm
    unfold fX11_lays_J205
    rw [xsCk_in (by omega) (by omega) (by omega), puI_clN (by omega), hcm]
    by_cases cc : C m
    · rw [puE_pos cc, xsBr_neg (by decide), xsCk_in (by omega) (by omega) (by omega), xsLt_eq, xsCk_in (by omega) (by omega) (by omega), xsLt_eq, xsLt_eq, xsBd_sm]
      simp only [fX11_lays_J248]
      rw [xsLt_eq, puI_clN (by omega), puI_s1, puI_s1]
      refine ⟨_, rfl, rfl, s1, fun k hk => ?_, fun k h7 h8 => ?_, puEo_s h4, s2, ?_⟩
      · dsimp only
        by_cases e : k = m
        · subst e; rw [puUpd_eq]; unfold puXo; rw [puE_pos cc]
        · rw [puUpd_ne e]; exact h2 k (by omega)
      · dsimp only
        rw [puUpd_ne (by omega)]; exact h3 k (by omega) h8
      · dsimp only; rw [puN_s, puE_pos cc]
    · rw [puE_neg cc, xsBr_pos rfl, xsBd_sm]
      simp only [fX11_lays_J248]
      rw [xsLt_eq, puI_s1]
      refine ⟨_, rfl, rfl, s1, fun k hk => ?_, fun k h7 h8 => h3 k (by omega) h8, fun k hk hck => ?_, s2, ?_⟩
      · dsimp only
        by_cases e : k = m
        · subst e; rw [hcm]; unfold puXo; rw [puE_neg cc, puE_neg cc]; rfl
        · exact h2 k (by omega)
      · by_cases e : k = m
        · subst e; exact absurd hck cc
        · exact h4 k (by omega) hck
      · dsimp only; rw [puN_s, puE_neg cc]; rfl
  · rintro ⟨i, one, cr, bu, eo, de, c⟩ ⟨rfl, h1, h2, h3, h4, h5, h6⟩
    simp only [fX11_lays_L142]
    rw [xsBr_pos (by rw [puI_leN (by omega) (by omega)]; omega)]
    exact ⟨_, rfl, h1, h2, h4, h5, h6⟩
/-- rows of two, as a list tells them -/
def puFT (L : List (Nat × Nat)) (fr to : Nat → Int32) : Prop := ∀ (i : Nat) (q : Nat × Nat), L[i]? = some q → fr i = puI (q.1 : Int) ∧ to i = puI (q.2 : Int)
theorem p_isEdge {L : List (Nat × Nat)} {fr to : Nat → Int32} (h : puFT L fr to) (hL : L.length ≤ 8000) (hb : ∀ q, q ∈ L → q.1 < 324 ∧ q.2 < 324) {j k : Nat} (hj : j < 324) (hk : k < 324) : fX11_isEdge fr to (puI (L.length : Int)) (puI (j : Int)) (puI (k : Int)) = some (puB ((j, k) ∈ L)) := by
  have key : puOk (xsWh (fun s3 => fX11_isEdge_L5 fr to (puI (L.length : Int)) (puI (j : Int)) (puI (k : Int)) s3.1 s3.2) ((0 : Int32), (0 : Int32))) (fun r => r = puB ((j, k) ∈ L)) := by
    refine puFor L.length (fun m z => z.2 = puI (m : Int) ∧ z.1 = puB (∃ i, i < m ∧ L[i]? = some (j, k))) _ ?_ ?_ 0 _ (Nat.zero_le _) ⟨rfl, (puB_neg (fun ⟨i, q, _⟩ => by omega)).symm⟩
    · rintro m ⟨y, i⟩ hm ⟨rfl, h1⟩
      simp only at h1
      subst h1
      simp only [fX11_isEdge_L5]
      rw [xsBr_neg (by rw [puI_leN (by omega) (by omega)]; omega)]
      by_cases c : ∃ i, i < m ∧ L[i]? = some (j, k)
      · right
        rw [puB_pos c, xsBr_neg (by decide)]
        obtain ⟨i, -, hi⟩ := c
        exact ⟨_, rfl, (puB_pos (List.mem_of_getElem? hi)).symm⟩
      · left
        rw [puB_neg c, xsBr_pos rfl, xsCk_in (by omega) (by omega) (by omega), puI_clN (by omega)]
        have e : L[m]? = some L[m] := List.getElem?_eq_getElem hm
        obtain ⟨f1, f2⟩ := h m _ e
        obtain ⟨b1, b2⟩ := hb _ (List.getElem_mem hm)
        rw [f1, f2, xsCk_in (by omega) (by omega) (by omega), xsBr_iff (puI_eqN (by omega) (by omega)), xsBr_iff (puI_eqN (by omega) (by omega)), xsBr_10, xsBr_B0, xsBd_sm]
        simp only [fX11_isEdge_J45]
        rw [xsLt_eq, puI_s1]
        refine ⟨_, rfl, rfl, puB_iff ?_⟩
        constructor
        · rintro ⟨q1, q2⟩
          exact ⟨m, by omega, by rw [e]; exact congrArg some (Prod.ext q1 q2)⟩
        · rintro ⟨i, q1, q2⟩
          by_cases ei : i = m
          · rw [ei, e] at q2
            have := Option.some.inj q2
            rw [this]; exact ⟨rfl, rfl⟩
          · exact absurd ⟨i, by omega, q2⟩ c
    · rintro ⟨y, i⟩ ⟨rfl, h1⟩
      simp only at h1
      simp only [fX11_isEdge_L5]
      rw [xsBr_pos (by rw [puI_leN (by omega) (by omega)]; omega)]
      refine ⟨_, rfl, h1.trans (puB_iff ?_)⟩
      constructor
      · rintro ⟨i, -, q⟩; exact List.mem_of_getElem? q
      · intro q
        obtain ⟨i, hi⟩ := List.mem_iff_getElem?.mp q
        exact ⟨i, (List.getElem?_eq_some_iff.mp hi).1, hi⟩
  obtain ⟨r, e, rfl⟩ := key
  unfold fX11_isEdge
  rw [xsBd_some e]
  simp only [fX11_isEdge_J52]
  rw [xsCk_pos (puB_xsB _)]
theorem puFT_app {L : List (Nat × Nat)} {fr to : Nat → Int32} (h : puFT L fr to) (j k : Nat) : puFT (L ++ [(j, k)]) (upd fr L.length (puI (j : Int))) (upd to L.length (puI (k : Int))) := by
  intro i q hq
  by_cases e : i = L.length
  · rw [e] at hq ⊢
    rw [List.getElem?_concat_length] at hq
    have := Option.some.inj hq
    rw [puUpd_eq, puUpd_eq, ← this]; exact ⟨rfl, rfl⟩
  · rw [puUpd_ne e, puUpd_ne e]
    refine h i q ?_
    have hl := (List.getElem?_eq_some_iff.mp hq).1
    rw [List.length_append] at hl
    simp only [List.length_cons, List.length_nil] at hl
    rw [List.getElem?_append_left (by omega)] at hq
    exact hq
theorem p_laysEdges {n N : Nat} {O : Nat → Nat → Prop} {bu de fr to : Nat → Int32} (hn : n ≤ 24) (hN : N ≤ 324) (hbu : ∀ k, k < N → puSt (bu k) (fun i => O i k)) (hgb : puGb O) {s : Nat} (hs : s < n) {ne : Int32} (hg : puGr N (puES O N s) de ne) (hf : puFT (puES O N s) fr to) :
    puOk (fX11_laysEdges (puI (N : Int)) bu de fr to ne (puI (s : Int))) (fun o => puGr N (puES O N (s + 1)) o.1 o.2.2.2 ∧ puFT (puES O N (s + 1)) o.2.1 o.2.2.1) := by
  have lim : ∀ m, m ≤ N → (puEl O (puES O N s) s m).length + 1 ≤ 8000 := by
    intro m hm
    have h1 := puEl_len (O := O) (L := puES O N s) (s := s) m
    have h2 := puES_len (O := O) (N := N) s
    have h3 : s * N ≤ 23 * 324 := Nat.mul_le_mul (by omega) hN
    omega
  have bd : ∀ m, m ≤ N → ∀ q, q ∈ puEl O (puES O N s) s m → q.1 < 324 ∧ q.2 < 324 := by
    rintro m hm ⟨j, k⟩ hq
    rcases ((puES_mem hgb (N := N) s).2 m hm j k).mp hq with q | ⟨q1, q2⟩
    · obtain ⟨q1, s', -, q2⟩ := ((puES_mem hgb (N := N) s).1 j k).mp q
      have := q2.1; exact ⟨by show j < 324; omega, by show k < 324; omega⟩
    · have := q2.1; exact ⟨by show j < 324; omega, by show k < 324; omega⟩
  have key : puOk (xsWh (fun s7 => fX11_laysEdges_L4 (puI (N : Int)) bu (puI (s : Int)) s7.1 s7.2.1 s7.2.2.1 s7.2.2.2.1 s7.2.2.2.2.1 s7.2.2.2.2.2) ((-1 : Int32), (0 : Int32), de, fr, to, ne)) (fun r => puGr N (puES O N (s + 1)) r.1 r.2.2.2 ∧ puFT (puES O N (s + 1)) r.2.1 r.2.2.1) := by
    refine puFor1 N (fun m z => z.2.1 = puI (m : Int) ∧ z.1 = puI (puLs (O s) m) ∧ puGr N (puEl O (puES O N s) s m) z.2.2.1 z.2.2.2.2.2 ∧ puFT (puEl O (puES O N s) s m) z.2.2.2.1 z.2.2.2.2.1) _ ⟨rfl, rfl, show puGr N (puEl O (puES O N s) s 0) de ne from hg, show puFT (puEl O (puES O N s) s 0) fr to from hf⟩ ?_ ?_
    · rintro m ⟨la, i, de, fr, to, ne⟩ hm ⟨rfl, h1, ⟨h2, h3⟩, h4⟩
      simp only at h1 h2 h3 h4
      subst h1; subst h3
      have l0 := lim m (by omega)
      simp only [fX11_laysEdges_L4]
      rw [xsBr_neg (by rw [puI_leN (by omega) (by omega)]; omega), xsCk_in (by omega) (by omega) (by omega), puI_clN (by omega), pu_holds _ (by omega), xsBd_sm]
      have hb := hbu m hm s (by omega)
      by_cases c : bt (bu m) s = true
      · have os : O s m := hb.mp c
        have nls : puLs (O s) (m + 1) = (m : Int) := puE_pos os
        rw [xsBr_neg (by rw [puB_pos c]; decide)]
        rcases puLs_or (O s) m with ⟨q1, q2⟩ | ⟨j, q1, q2, q3, q4⟩
        · rw [q1, xsBr_pos (by rfl), xsBd_sm]
          simp only [fX11_laysEdges_J92, xsBd_sm, fX11_laysEdges_J94, xsLt_eq]
          rw [puI_s1]
          have nn : ¬ puNw O s m := fun ⟨_, j, e, _⟩ => by rw [q1] at e; omega
          refine ⟨_, rfl, rfl, by rw [nls], ?_, ?_⟩
          · rw [puEl_n nn]; exact ⟨h2, rfl⟩
          · rw [puEl_n nn]; exact h4
        · rw [q2, xsBr_neg (by rw [show (-1 : Int32) = puI (-1) by rfl, puI_eq (by omega) (by omega) (by omega) (by omega)]; omega), p_isEdge h4 (by omega) (bd m (by omega)) (by omega) (by omega), xsBd_sm]
          have nw := puNw_iff hgb hm os q2
          by_cases c2 : puNw O s m
          · obtain ⟨-, j2, e2, hno⟩ := id c2
            have ej : j2 = j := by rw [q2] at e2; omega
            subst ej
            rw [xsBr_pos (by rw [puB_neg (nw.mp c2)]), xsCk_in (by omega) (by omega) (by omega), xsLt_eq, xsCk_in (by omega) (by omega) (by omega), xsLt_eq, xsLt_eq]
            simp (disch := omega) only [xsCk_in, xsLt_eq, puI_clN, xsBd_sm, fX11_laysEdges_J92, fX11_laysEdges_J94]
            rw [puI_s1]
            refine ⟨_, rfl, rfl, by rw [nls], ⟨fun e he => ?_, ?_⟩, ?_⟩
            · dsimp only
              rw [puEl_y os q2 hno, puDg_app]
              have e1 := h2 j2 (by omega); have e2 := h2 _ hm; have e3 := h2 e he
              by_cases q1 : e = m
              · rw [q1, puUpd_eq, puUpd_ne (by omega), e2, puI_s1, if_pos (Or.inr rfl)]
              · rw [puUpd_ne q1]
                by_cases q2 : e = j2
                · rw [q2, puUpd_eq, e1, puI_s1, if_pos (Or.inl rfl)]
                · rw [puUpd_ne q2, e3, if_neg (fun q => q.elim q2 q1)]; rfl
            · dsimp only
              rw [puEl_y os q2 hno, List.length_append, puI_s1]; rfl
            · dsimp only
              rw [puEl_y os q2 hno]
              exact puFT_app h4 j2 m
          · have hm2 : (j, m) ∈ puEl O (puES O N s) s m := Classical.byContradiction fun q => c2 (nw.mpr q)
            rw [xsBr_neg (by rw [puB_pos hm2]; decide), xsBd_sm]
            simp only [fX11_laysEdges_J92, xsBd_sm, fX11_laysEdges_J94, xsLt_eq]
            rw [puI_s1]
            refine ⟨_, rfl, rfl, by rw [nls], ?_, ?_⟩
            · rw [puEl_n c2]; exact ⟨h2, rfl⟩
            · rw [puEl_n c2]; exact h4
      · have no : ¬ O s m := fun q => c (hb.mpr q)
        rw [xsBr_pos (by rw [puB_neg c]), xsBd_sm]
        simp only [fX11_laysEdges_J94, xsLt_eq]
        rw [puI_s1]
        have nls : puLs (O s) (m + 1) = puLs (O s) m := puE_neg no
        refine ⟨_, rfl, rfl, by rw [nls], ?_, ?_⟩
        · rw [puEl_n (fun q => no q.1)]; exact ⟨h2, rfl⟩
        · rw [puEl_n (fun q => no q.1)]; exact h4
    · rintro ⟨la, i, de, fr, to, ne⟩ ⟨rfl, h1, h2, h3⟩
      simp only [fX11_laysEdges_L4]
      rw [xsBr_pos (by rw [puI_leN (by omega) (by omega)]; omega)]
      exact ⟨_, rfl, h2, h3⟩
  obtain ⟨r, e, h1, h2⟩ := key
  unfold fX11_laysEdges
  rw [xsBd_some e]
  exact puOk_some ⟨h1, h2⟩
/-- the reference's picture is that of a world -/
def puMLd (n : Nat) (G : puG) (ex ey ed : Nat → Int64) (sz : Int32) (cr bu eo de fr to : Nat → Int32) (nc ne : Int32) : Prop :=
  (puOkP n G ∧ (puCan n G).1 ≤ 324) ∧ (puEvs (puCan n G).1 (puCan n G).2 ex ey ed ∧ sz = puI ((puCan n G).1 : Int)) ∧
  (∀ k, k < (puCan n G).1 → puSt (bu k) (fun s => puO n G s k)) ∧
  ((∀ k, k < (puCan n G).1 → cr k = puI (puXo (puX n G) k)) ∧ puEo (puX n G) (puCan n G).1 eo ∧ nc = puI (puN (puX n G) (puCan n G).1 : Int)) ∧
  puGr (puCan n G).1 (puES (puOo n G) (puCan n G).1 n) de ne ∧ puFT (puES (puOo n G) (puCan n G).1 n) fr to
def puML19 (n : Nat) (G : puG) (o : Int32 × (Nat → Int32) × (Nat → Int32) × (Nat → Int32) × Int64 × Int64 × Int64 × (Nat → Int64) × (Nat → Int64) × (Nat → Int64) × Int32 × (Nat → Int32) × (Nat → Int32) × (Nat → Int32) × (Nat → Int32) × (Nat → Int32) × (Nat → Int32) × Int32 × Int32) : Prop :=
  o.1 = 1 ∧ puMLd n G o.2.2.2.2.2.2.2.1 o.2.2.2.2.2.2.2.2.1 o.2.2.2.2.2.2.2.2.2.1 o.2.2.2.2.2.2.2.2.2.2.1 o.2.2.2.2.2.2.2.2.2.2.2.1 o.2.2.2.2.2.2.2.2.2.2.2.2.1 o.2.2.2.2.2.2.2.2.2.2.2.2.2.1 o.2.2.2.2.2.2.2.2.2.2.2.2.2.2.1 o.2.2.2.2.2.2.2.2.2.2.2.2.2.2.2.1 o.2.2.2.2.2.2.2.2.2.2.2.2.2.2.2.2.1 o.2.2.2.2.2.2.2.2.2.2.2.2.2.2.2.2.2.1 o.2.2.2.2.2.2.2.2.2.2.2.2.2.2.2.2.2.2
theorem p_lays {n : Nat} {G : puG} {w : Nat → Int32} (hv : puVal n G) (hw : puMW n G w) {ld : Int32} {one two sh : Nat → Int32} {x0 y0 d0 : Int64} {ex ey ed : Nat → Int64} {sz : Int32} {cr bu eo de fr to : Nat → Int32} {nc ne : Int32} (h : ld = 0 ∨ (ld = 1 ∧ puMLd n G ex ey ed sz cr bu eo de fr to nc ne)) :
    puOk (fX11_lays w ld one two sh x0 y0 d0 ex ey ed sz cr bu eo de fr to nc ne) (puML19 n G) := by
  unfold fX11_lays
  rcases h with h | ⟨h, h2⟩
  · rw [xsBr_pos h]
    obtain ⟨r, er, hr⟩ := p_lays20 hv hw (ex := ex) (ey := ey) (ed := ed) (cr := cr)
    rw [xsBd_some er]
    unfold fX11_lays_J74
    obtain ⟨r2, er2, N, P, h1, h2, h3, h4, h5, h6⟩ := p_lays76 hv hw hr (one := one) (two := two) (sh := sh) (x0 := x0) (y0 := y0) (d0 := d0)
    rw [xsBd_some er2]
    have hE : puEvt n G N P := by
      refine ⟨h3, fun p => ?_⟩
      rw [h4]
      unfold puPk puPt puCr
      constructor
      · rintro (q | ⟨a, b, q1, q2, q3⟩)
        · exact Or.inl q
        · exact Or.inr ⟨a, b, by omega, by omega, q2, q3⟩
      · rintro (q | ⟨a, b, q0, q1, q2, q3⟩)
        · exact Or.inl q
        · exact Or.inr ⟨a, b, by omega, q2, q3⟩
    obtain ⟨hC, hNN, hPP⟩ := puCan_of hE
    have h2 := puEvs_c h2 hPP
    have h6 : ∀ e, e < N → r2.2.2.2.2.2.2.2.2.2.2 e = puE (puX n G e) (0 : Int32) (-1 : Int32) := fun e he => by
      rw [h6 e he]
      unfold puFl puX puCr
      refine puE_iff ?_
      rw [hPP e he]
      exact ⟨fun ⟨a, b, q1, q2, q3⟩ => ⟨a, b, q1.1, q1.2, q2, q3⟩, fun ⟨a, b, q0, q1, q2, q3⟩ => ⟨a, b, ⟨q0, q1⟩, q2, q3⟩⟩
    rw [hNN] at h1 h2 h5 h6
    clear hE hPP h3 h4 hNN
    unfold fX11_lays_J135
    rw [h1]
    obtain ⟨r3, er3, i1, i2, i3, i4, i5⟩ := p_lays142 hv hw h2 h5 h6 (one := r2.1) (bu := bu) (eo := eo) (de := de)
    rw [xsBd_some er3]
    unfold fX11_lays_J254
    have hP : puOkP n G := ⟨hv, hC⟩
    have hn := hv.1
    have key : puOk (xsWh (fun s56 => fX11_lays_L261 w (puI ((puCan n G).1 : Int)) r3.2.2.1 s56.1 s56.2.1 s56.2.2.1 s56.2.2.2.1 s56.2.2.2.2) ((0 : Int32), r3.2.2.2.2.1, fr, to, (0 : Int32))) (fun r => puGr (puCan n G).1 (puES (puOo n G) (puCan n G).1 n) r.1 r.2.2.2 ∧ puFT (puES (puOo n G) (puCan n G).1 n) r.2.1 r.2.2.1) := by
      refine puFor1 n (fun s z => z.1 = puI (s : Int) ∧ puGr (puCan n G).1 (puES (puOo n G) (puCan n G).1 s) z.2.1 z.2.2.2.2 ∧ puFT (puES (puOo n G) (puCan n G).1 s) z.2.2.1 z.2.2.2.1) _ ⟨rfl, ⟨fun e he => (i4 e he).trans rfl, rfl⟩, fun i q hq => ?_⟩ ?_ ?_
      · have : (puES (puOo n G) (puCan n G).1 0)[i]? = none := rfl
        rw [this] at hq; cases hq
      · rintro s ⟨i, de, fr, to, ne⟩ hs ⟨rfl, j1, j2⟩
        simp only at j1 j2
        simp only [fX11_lays_L261]
        rw [p_many hw, xsBd_sm, xsBr_neg (by rw [puI_leN (by omega) (by omega)]; omega)]
        obtain ⟨o, eo, o1, o2⟩ := p_laysEdges (O := puOo n G) hn h5 (fun k hk => puSt_c (i1 k hk) (fun i _ => ⟨fun q => ⟨hk, q⟩, fun q => q.2⟩)) (puGb_O hP) hs j1 j2
        rw [xsBd_some eo, xsLt_eq, puI_s1]
        exact ⟨_, rfl, rfl, o1, o2⟩
      · rintro ⟨i, de, fr, to, ne⟩ ⟨rfl, j1, j2⟩
        simp only [fX11_lays_L261]
        rw [p_many hw, xsBd_sm, xsBr_pos (by rw [puI_leN (by omega) (by omega)]; omega)]
        exact ⟨_, rfl, j1, j2⟩
    obtain ⟨r4, er4, k1, k2⟩ := key
    rw [xsBd_some er4]
    simp only [fX11_lays_J280]
    exact puOk_some ⟨rfl, ⟨hP, h5⟩, ⟨h2, rfl⟩, i1, ⟨i2, i3, i5⟩, k1, k2⟩
  · rw [xsBr_neg (by rw [h]; decide)]
    exact puOk_some ⟨h, h2⟩
