/-! PURE: what is remembered; TINTS don't matter to the picture -/
theorem puMW_e {n : Nat} {G : puG} (hn : n ≤ 24) {f g : Nat → Int32} (hf : puMW n G f) (e : ∀ k, k < 121 → g k = f k) : puMW n G g := by
  refine ⟨(e 0 (by omega)).trans hf.1, fun s hs => ?_⟩
  obtain ⟨q0, q1, q2, q3, q4⟩ := hf.2 s hs
  exact ⟨(e _ (by omega)).trans q0, (e _ (by omega)).trans q1, (e _ (by omega)).trans q2, (e _ (by omega)).trans q3, (e _ (by omega)).trans q4⟩
theorem pu_mod8 : ∀ l : Nat, l < 16 → puI (l : Int) - puI (l : Int) / (8 : Int32) * (8 : Int32) = puI ((l % 8 : Nat) : Int) := by decide +kernel
theorem pu_121 (k : Nat) : (121 : Int32) * puI (k : Int) = puI ((121 * k : Nat) : Int) := by rw [show (121 : Int32) = puI 121 by rfl, puI_mul]; congr 1
theorem p_shiftall {ea : Nat → Int32} : puOk (xsWh (fun s11 => fX11_remembers_L11 s11.1 s11.2) ((1 : Int32), ea)) (fun r => ∀ i, r i = if i < 847 then ea (i + 121) else ea i) := by
  refine puFor 8 (fun k z => 1 ≤ k ∧ z.1 = puI (k : Int) ∧ ∀ i, z.2 i = if i < 121 * (k - 1) then ea (i + 121) else ea i) _ ?_ ?_ 1 _ (by omega) ⟨Nat.le_refl _, rfl, fun i => by rw [if_neg (by omega)]⟩
  · rintro k ⟨y, f⟩ hk ⟨q0, q1, q2⟩
    simp only at q0 q1 q2
    subst q1
    obtain ⟨o, eo, ho⟩ := p_copies (g := f) (a := 121 * k) (c := 121 * (k - 1)) (by omega) (by omega) (by omega)
    simp only [fX11_remembers_L11]
    rw [xsBr_neg (by rw [show (8 : Int32) = puI ((8 : Nat) : Int) by rfl, puI_leN (by omega) (by omega)]; omega), puI_p1 (by omega), pu_121, pu_121, xsBd_some eo, xsLt_eq, puI_s1]
    refine Or.inl ⟨_, rfl, by omega, rfl, fun i => ?_⟩
    dsimp only
    rw [ho i]
    by_cases c : 121 * (k - 1) ≤ i ∧ i < 121 * (k - 1) + 121
    · rw [if_pos c, q2, if_neg (by omega), if_pos (by omega)]; congr 1; omega
    · rw [if_neg c, q2]
      by_cases d : i < 121 * (k - 1)
      · rw [if_pos d, if_pos (by omega)]
      · rw [if_neg d, if_neg (by omega)]
  · rintro ⟨y, f⟩ ⟨q0, q1, q2⟩
    simp only at q0 q1 q2
    subst q1
    simp only [fX11_remembers_L11]
    rw [xsBr_pos (by rw [show (8 : Int32) = puI ((8 : Nat) : Int) by rfl, puI_leN (by omega) (by omega)]; omega)]
    exact ⟨_, rfl, q2⟩
theorem p_remember {n : Nat} {G : puG} {S : Nat → xsV} {w ea : Nat → Int32} {la sz rm st : Int32} (rw0 : puRw n G (S 0) w) (rh : puRh la sz S rm ea) : ∃ o o2, fX10_remember st la sz (fun i => S (4 + i)) (S 0).1 (S 0).2.1 (S 0).2.2.1 (S 0).2.2.2.1 (S 0).2.2.2.2.1 (S 0).2.2.2.2.2 = some o ∧ fX11_remembers w ea rm = some o2 ∧ o.1 = 1 ∧ puRh o.2.1 o.2.2.1 (xsHs S o.2.2.2) o2.2 o2.1 := by
  obtain ⟨w1, w2, w3⟩ := rw0
  have hn := w1.1
  obtain ⟨h, l, h1, h2, rfl, rfl, rfl, h6⟩ := rh
  obtain ⟨o5, eo5, ho5⟩ := p_copyFrom hn w2 (lx := (S (4 + (l + 1) % 8)).1) (ly := (S (4 + (l + 1) % 8)).2.1) (rx := (S (4 + (l + 1) % 8)).2.2.1) (ry := (S (4 + (l + 1) % 8)).2.2.2.1) (ti := (S (4 + (l + 1) % 8)).2.2.2.2.1) (sz := (S (4 + (l + 1) % 8)).2.2.2.2.2)
  have emin : (if (8 : Int32) < puI (h : Int) + 1 then (8 : Int32) else puI (h : Int) + 1) = puI ((min (h + 1) 8 : Nat) : Int) := by
    rw [puI_s1, show (8 : Int32) = puI ((8 : Nat) : Int) by rfl]
    by_cases c : 8 < h + 1
    · rw [if_pos ((puI_ltN (by omega) (by omega)).mpr c)]; congr 2; omega
    · rw [if_neg (fun q => c ((puI_ltN (by omega) (by omega)).mp q))]; congr 2; omega
  have epush : fX10_remember st (puI (l : Int)) (puI (h : Int)) (fun i => S (4 + i)) (S 0).1 (S 0).2.1 (S 0).2.2.1 (S 0).2.2.2.1 (S 0).2.2.2.2.1 (S 0).2.2.2.2.2 = some (1, puI (((l + 1) % 8 : Nat) : Int), puI ((min (h + 1) 8 : Nat) : Int), xsSu (fun i => S (4 + i)) ((l + 1) % 8) o5) := by
    unfold fX10_remember fX3_push
    rw [xsCk_pos (by decide), puI_s1, pu_mod8 (l + 1) (by omega), xsLt_eq, xsCk_in (by omega) (by omega) (by omega), puI_clN (by omega), xsLt_eq]
    dsimp only
    rw [xsBd_some eo5, xsLt_eq, emin, xsBd_sm]
  -- the reference's blocks behind it
  obtain ⟨y1, e1, hy⟩ : ∃ y1 : Nat → Int32, xsBr (puI (h : Int) = (8 : Int32)) (xsBd (xsWh (fun s11 => fX11_remembers_L11 s11.1 s11.2) ((1 : Int32), ea)) (fun r11 => fX11_remembers_J44 (puI (h : Int)) r11)) (some (ea, puI (h : Int))) = some (y1, puI ((min (h + 1) 8 - 1 : Nat) : Int)) ∧ ∀ b k, b + 1 < min (h + 1) 8 → k < 121 → y1 (121 * b + k) = ea (121 * (if h = 8 then b + 1 else b) + k) := by
    by_cases c : h = 8
    · obtain ⟨r, er, hr⟩ := p_shiftall (ea := ea)
      refine ⟨r, ?_, fun b k hb hk => ?_⟩
      · rw [xsBr_pos (by rw [c]; rfl), xsBd_some er]
        unfold fX11_remembers_J44
        rw [xsLt_eq, puI_p1 (by omega)]
        congr 3
        omega
      · rw [if_pos c, hr, if_pos (by omega)]; congr 1; omega
    · refine ⟨ea, ?_, fun b k hb hk => by rw [if_neg c]⟩
      rw [xsBr_neg (by rw [show (8 : Int32) = puI ((8 : Nat) : Int) by rfl, puI_eqN (by omega) (by omega)]; exact c)]
      congr 3
      omega
  obtain ⟨o3, eo3, ho3⟩ := p_copies_v1 (f := w) (g := y1) (a := 0) (c := 121 * (min (h + 1) 8 - 1)) (by omega) (by omega)
  have erem : fX11_remembers w ea (puI (h : Int)) = some (o3, puI ((min (h + 1) 8 : Nat) : Int)) := by
    unfold fX11_remembers
    rw [e1, xsBd_sm]
    unfold fX11_remembers_J54
    rw [pu_121, show (0 : Int32) = puI ((0 : Nat) : Int) by rfl, xsBd_some eo3, puI_s1, xsLt_eq]
    congr 3
    omega
  refine ⟨_, _, epush, erem, rfl, min (h + 1) 8, (l + 1) % 8, by omega, by omega, rfl, rfl, rfl, fun i hi => ?_⟩
  dsimp only
  rw [xsHs_ge]
  by_cases i0 : i = 0
  · subst i0
    rw [show ((l + 1) % 8 + 8 - 0) % 8 = (l + 1) % 8 by omega, xsSu_eq]
    refine ⟨n, G, w1, ho5, ?_⟩
    rw [show min (h + 1) 8 - 1 - 0 = min (h + 1) 8 - 1 by omega]
    exact puMW_cpy hn ho3 (puMW_0.mpr w3)
  · have en : ((l + 1) % 8 + 8 - i) % 8 = (l + 8 - (i - 1)) % 8 := by omega
    rw [en, xsSu_ne (by omega)]
    obtain ⟨n', G', v1, v2, v3⟩ := h6 (i - 1) (by omega)
    refine ⟨n', G', v1, v2, ?_⟩
    refine puMW_e v1.1 v3 (fun k hk => ?_)
    have b1 : 121 * (min (h + 1) 8 - 1 - i) + k < 121 * (min (h + 1) 8 - 1) := by
      have : min (h + 1) 8 - 1 - i + 1 ≤ min (h + 1) 8 - 1 := by omega
      omega
    rw [ho3, if_neg (by omega), hy _ _ (by omega) hk]
    congr 1
    by_cases c : h = 8
    · rw [if_pos c]; congr 2; omega
    · rw [if_neg c]; congr 2; omega
/-- the picture of a world with other TINTS -/
def puLk (q r : puS) : Prop := q.1 = r.1 ∧ q.2.1 = r.2.1 ∧ q.2.2.1 = r.2.2.1 ∧ q.2.2.2.1 = r.2.2.2.1
theorem puLk_on {q r : puS} (h : puLk q r) : puOn q = puOn r ∧ puA q = puA r ∧ puZ q = puZ r := by
  obtain ⟨a, b, c, d, e⟩ := q
  obtain ⟨a', b', c', d', e'⟩ := r
  obtain ⟨h1, h2, h3, h4⟩ := h
  simp only at h1 h2 h3 h4
  subst h1; subst h2; subst h3; subst h4
  exact ⟨rfl, rfl, rfl⟩
theorem puLk_kd {q r q' r' : puS} (h : puLk q r) (h' : puLk q' r') : puKd q q' = puKd r r' ∧ puMp q q' = puMp r r' := by
  obtain ⟨a, b, c, d, e⟩ := q
  obtain ⟨a', b', c', d', e'⟩ := r
  obtain ⟨h1, h2, h3, h4⟩ := h
  simp only at h1 h2 h3 h4
  subst h1; subst h2; subst h3; subst h4
  obtain ⟨a2, b2, c2, d2, e2⟩ := q'
  obtain ⟨a2', b2', c2', d2', e2'⟩ := r'
  obtain ⟨h1, h2, h3, h4⟩ := h'
  simp only at h1 h2 h3 h4
  subst h1; subst h2; subst h3; subst h4
  exact ⟨rfl, rfl⟩
theorem puLk_cr {n : Nat} {G G' : puG} (h : ∀ s, s < n → puLk (G s) (G' s)) : puCr n G = puCr n G' := by
  funext p
  refine propext ⟨?_, ?_⟩
  · rintro ⟨a, b, h1, h2, h3, h4⟩
    obtain ⟨k1, k2⟩ := puLk_kd (h a h2) (h b (by omega))
    exact ⟨a, b, h1, h2, by rw [← k1]; exact h3, by rw [← k2]; exact h4⟩
  · rintro ⟨a, b, h1, h2, h3, h4⟩
    obtain ⟨k1, k2⟩ := puLk_kd (h a h2) (h b (by omega))
    exact ⟨a, b, h1, h2, by rw [k1]; exact h3, by rw [k2]; exact h4⟩
theorem puLk_evt {n : Nat} {G G' : puG} (h : ∀ s, s < n → puLk (G s) (G' s)) : puEvt n G = puEvt n G' := by
  have ep : puPt n G = puPt n G' := by
    funext p
    unfold puPt
    rw [puLk_cr h]
    refine propext ⟨?_, ?_⟩
    · rintro (⟨s, hs, k⟩ | k)
      · obtain ⟨-, k1, k2⟩ := puLk_on (h s hs)
        exact Or.inl ⟨s, hs, by rw [← k1, ← k2]; exact k⟩
      · exact Or.inr k
    · rintro (⟨s, hs, k⟩ | k)
      · obtain ⟨-, k1, k2⟩ := puLk_on (h s hs)
        exact Or.inl ⟨s, hs, by rw [k1, k2]; exact k⟩
      · exact Or.inr k
  funext N P
  unfold puEvt
  rw [ep]
noncomputable def puCanOf (E : Nat → (Nat → puP) → Prop) : Nat × (Nat → puP) := @dite _ (∃ x : Nat × (Nat → puP), E x.1 x.2) (Classical.propDecidable _) (fun h => Classical.choose h) (fun _ => (0, fun _ => (0, 0)))
theorem puLk_can {n : Nat} {G G' : puG} (h : ∀ s, s < n → puLk (G s) (G' s)) : puCan n G = puCan n G' := by
  show puCanOf (puEvt n G) = puCanOf (puEvt n G')
  rw [puLk_evt h]
theorem puLk_o {n : Nat} {G G' : puG} (h : ∀ s, s < n → puLk (G s) (G' s)) : puO n G = puO n G' := by
  funext s k
  unfold puO
  rw [puLk_can h]
  refine propext ⟨?_, ?_⟩
  · rintro ⟨h1, h2⟩
    exact ⟨h1, by rw [← (puLk_on (h s h1)).1]; exact h2⟩
  · rintro ⟨h1, h2⟩
    exact ⟨h1, by rw [(puLk_on (h s h1)).1]; exact h2⟩
theorem puMLd_c {n : Nat} {G G' : puG} (h : ∀ s, s < n → puLk (G s) (G' s)) (hv : puVal n G') {ex ey ed : Nat → Int64} {sz : Int32} {cr bu eo de fr to : Nat → Int32} {nc ne : Int32} (m : puMLd n G ex ey ed sz cr bu eo de fr to nc ne) : puMLd n G' ex ey ed sz cr bu eo de fr to nc ne := by
  have e1 := puLk_can h
  have e2 := puLk_o h
  have e3 := puLk_evt h
  have e4 : puX n G = puX n G' := by
    show (fun j => puCr n G ((puCan n G).2 j)) = (fun j => puCr n G' ((puCan n G').2 j))
    rw [e1, puLk_cr h]
  have e5 : puOo n G = puOo n G' := by
    funext s k
    show (k < (puCan n G).1 ∧ puO n G s k) = (k < (puCan n G').1 ∧ puO n G' s k)
    rw [e1, e2]
  have e6 : puOkP n G → puOkP n G' := fun q => ⟨hv, by rw [← e1, ← e3]; exact q.2⟩
  unfold puMLd at *
  rw [e1, e2, e4, e5] at m
  exact ⟨⟨e6 m.1.1, m.1.2⟩, m.2⟩
