/-! PURE: the reference's STATUS -/
theorem puN_img {P : Nat → Prop} {n c : Nat} {f : Nat → Nat} (h1 : ∀ j, j < c → f j < n ∧ P (f j)) (h2 : ∀ i j, i < j → j < c → f i ≠ f j) (h3 : ∀ s, s < n → P s → ∃ j, j < c ∧ f j = s) : puN P n = c := by
  apply Nat.le_antisymm
  · have hk : ∀ i, i < puN P n → ∃ j, j < c ∧ P (f j) ∧ puN P (f j) = i := fun i hi => by
      obtain ⟨s, h, hp, e⟩ := puN_kth hi
      obtain ⟨j, hj, rfl⟩ := h3 s h hp
      exact ⟨j, hj, hp, e⟩
    refine fb_holes c (puN P n) (fun i => @dite _ (i < puN P n) (Classical.propDecidable _) (fun h => Classical.choose (hk i h)) (fun _ => 0)) (fun i hi => ?_) (fun i j hij hj => ?_)
    · simp only [dif_pos hi]
      exact (Classical.choose_spec (hk i hi)).1
    · have hi : i < puN P n := by omega
      simp only [dif_pos hi, dif_pos hj]
      intro e
      have a := (Classical.choose_spec (hk i hi)).2.2
      have b := (Classical.choose_spec (hk j hj)).2.2
      rw [e] at a
      omega
  · refine fb_holes (puN P n) c (fun j => puN P (f j)) (fun j hj => puN_lt (h1 j hj).1 (h1 j hj).2) (fun i j hij hj e => ?_)
    exact h2 i j hij hj (puN_inj (h1 i (by omega)).2 (h1 j hj).2 e)
theorem puCp_le {p q : puP} : puCp p q ≤ 0 ↔ puLe p q := by
  rw [puLe_iff, ← puCp_lt, ← puCp_eq]; omega
theorem p_isMet {n : Nat} {G : puG} {w : Nat → Int32} {ex ey ed : Nat → Int64} {N : Nat} {P : Nat → puP} (hv : puVal n G) (hw : puMW n G w) (he : puEvs N P ex ey ed) (hN : N ≤ 324) {s k : Nat} (hs : s < n) (hk : k < N) : fX11_isMet w ex ey ed (puI (s : Int)) (puI (k : Int)) = some (puB (su_al (G s) (P k))) := by
  have hn := hv.1
  have v := hv.2 s hs
  have cA := puCp_bd (puA (G s)) (P k)
  have cZ := puCp_bd (puZ (G s)) (P k)
  have lA := puCp_le (p := puA (G s)) (q := P k)
  have lZ := puCp_le (p := puZ (G s)) (q := P k)
  obtain ⟨h1, h2, h3, h4, -⟩ := hw.2 s hs
  have rA := puRep_A v
  have rZ := puRep_Z v
  obtain ⟨⟨b1, b2, b3, b4⟩, -, -⟩ := v
  unfold fX11_isMet
  rw [p_of0 (by omega), p_of1 (by omega)]
  simp (disch := omega) only [xsBd_sm, xsCk_in, puI_clN, h1, h2, puI_l]
  rw [show (1 : Int64) = puJ 1 by rfl, p_against rA (he k hk), xsBd_sm]
  unfold fX11_isMet_J44
  by_cases c : puLe (puA (G s)) (P k)
  case neg =>
    have c' : ¬ puCp (puA (G s)) (P k) ≤ 0 := fun q => c (lA.mp q)
    rw [xsBr_pos (by rw [show (0 : Int32) = puI 0 by rfl, puI_lt (by omega) (by omega) (by omega) (by omega)]; omega), xsBd_sm, xsBr_pos rfl, puB_neg (fun q => c q.1)]
  have c' := lA.mpr c
  rw [xsBr_neg (by rw [show (0 : Int32) = puI 0 by rfl, puI_lt (by omega) (by omega) (by omega) (by omega)]; omega), xsBd_sm, xsBr_neg (by decide), p_of2 (by omega), p_of3 (by omega)]
  simp (disch := omega) only [xsBd_sm, xsCk_in, puI_clN, h3, h4, puI_l]
  rw [show (1 : Int64) = puJ 1 by rfl, p_against rZ (he k hk), xsBd_sm]
  by_cases d : puLe (puZ (G s)) (P k)
  · rw [xsBr_pos (by rw [show (0 : Int32) = puI 0 by rfl, puI_le (by omega) (by omega) (by omega) (by omega)]; exact lZ.mpr d), puB_neg (fun q => puLt_not.mpr q.2 d)]
  · rw [xsBr_neg (by rw [show (0 : Int32) = puI 0 by rfl, puI_le (by omega) (by omega) (by omega) (by omega)]; exact fun q => d (lZ.mp q)), puB_pos ⟨c, puLt_not.mp d⟩]
def su_U (q : puS) (p : puP) (D : Int) (u l : Int64) : Prop := ∃ U L : Int, u = puJ U ∧ l = puJ L ∧ (0 < L ∧ L ≤ 1998) ∧ (-60000000000000 ≤ U ∧ U ≤ 60000000000000) ∧ (U : Rat) = su_y q p * ((L : Rat) * (D : Rat))
theorem p_laysY {n : Nat} {G : puG} {w : Nat → Int32} {ex ey ed : Nat → Int64} (hv : puVal n G) (hw : puMW n G w) {s k : Nat} (hs : s < n) (hk : k < 324) {p : puP} {X Y D : Int} (e1 : ex k = puJ X) (e2 : ey k = puJ Y) (e3 : ed k = puJ D) (hD : 0 < D ∧ D ≤ 7984008) (r1 : (X : Rat) = p.1 * (D : Rat)) (r2 : (Y : Rat) = p.2 * (D : Rat)) (bX : -(999 * D) ≤ X ∧ X ≤ 999 * D) (bY : -(999 * D) ≤ Y ∧ Y ≤ 999 * D) {up lo : Nat → Int64} :
    puOk (fX11_laysY w ex ey ed up lo (puI (s : Int)) (puI (k : Int))) (fun o => ∃ u l, su_U (G s) p D u l ∧ o.1 = vp_updL up s u ∧ o.2 = vp_updL lo s l) := by
  have hn := hv.1
  have v := hv.2 s hs
  have bw := puV_w v
  have ub := su_ub v hD bX
  obtain ⟨h1, h2, h3, h4, -⟩ := hw.2 s hs
  obtain ⟨⟨b1, b2, b3, b4⟩, -, -⟩ := id v
  unfold fX11_laysY
  rw [p_of0 (by omega), p_of1 (by omega), p_of2 (by omega), p_of3 (by omega)]
  simp (disch := omega) only [xsBd_sm, h1, h2, h3, h4, puI_sub, puI_l, xsLt_eq]
  rw [show (G s).2.2.1 - (G s).1 = puW (G s) by rfl, show (G s).2.2.2.1 - (G s).2.1 = puH (G s) by rfl]
  have bh := puV_h v
  rw [show (0 : Int64) = puJ 0 by rfl]
  by_cases c : puW (G s) = 0
  · rw [xsBr_pos (by rw [c]), xsBd_sm]
    unfold fX11_laysY_J47
    rw [xsCk_in (by omega) (by omega) (by omega), xsLt_eq, show (0 : Int64) = puJ 0 by rfl, xsBr_pos (by rw [c]), xsCk_in (by omega) (by omega) (by omega), xsBd_sm, puI_clN (by omega), puI_clN (by omega)]
    unfold fX11_laysY_J109
    rw [xsCk_in (by omega) (by omega) (by omega), xsLt_eq, puI_clN (by omega)]
    refine puOk_some ⟨_, _, ⟨Y, 1, e2, rfl, by omega, by omega, ?_⟩, rfl, rfl⟩
    rw [su_y0 c, r2, show ((1 : Int) : Rat) = 1 by rfl]; grind
  · rw [xsBr_neg (by rw [puJ_eq (by omega) (by omega) (by omega) (by omega)]; exact c), xsBd_sm]
    unfold fX11_laysY_J47
    rw [xsCk_in (by omega) (by omega) (by omega), xsLt_eq, show (0 : Int64) = puJ 0 by rfl, xsBr_neg (by rw [puJ_eq (by omega) (by omega) (by omega) (by omega)]; exact c), p_of0 (by omega), p_of1 (by omega)]
    simp (disch := omega) only [xsBd_sm, xsCk_in, puI_clN, h1, h2, puI_l, e1, e3, puJ_mul, puJ_sub, puJ_add]
    unfold fX11_laysY_J109
    rw [xsCk_in (by omega) (by omega) (by omega), xsLt_eq, puI_clN (by omega)]
    have ue := su_ue (q := G s) (X := X) (D := D) (p := p) c r1
    rw [show (G s).2.1 * puW (G s) * D + puH (G s) * (X - (G s).1 * D) = (G s).2.1 * puW (G s) * D + (X - (G s).1 * D) * puH (G s) by rw [Int.mul_comm (puH (G s))]]
    exact puOk_some ⟨_, _, ⟨_, _, rfl, rfl, by omega, ub, ue⟩, rfl, rfl⟩
theorem p_isUp {n : Nat} {G : puG} {w : Nat → Int32} (hv : puVal n G) (hw : puMW n G w) {s : Nat} (hs : s < n) : fX11_isUpright w (puI (s : Int)) = some (puB (puW (G s) = 0)) := by
  have hn := hv.1
  obtain ⟨h1, h2, h3, h4, -⟩ := hw.2 s hs
  obtain ⟨⟨b1, b2, b3, b4⟩, -, -⟩ := hv.2 s hs
  unfold fX11_isUpright
  rw [p_of0 (by omega), p_of2 (by omega)]
  simp (disch := omega) only [xsBd_sm, h1, h3, puI_eq, xsBr_10]
  refine congrArg some (puB_iff ?_)
  unfold puW; omega
theorem p_rises {n : Nat} {G : puG} {w : Nat → Int32} (hv : puVal n G) (hw : puMW n G w) {a b : Nat} (ha : a < n) (hb : b < n) {p : puP} (la : su_al (G a) p) (lb : su_al (G b) p) : ∃ r : Int, fX11_rises w (puI (a : Int)) (puI (b : Int)) = some (puI r) ∧ (-8000000 ≤ r ∧ r ≤ 8000000) ∧ (r < 0 ↔ su_s (G a) (G b) < 0) ∧ (r = 0 ↔ su_s (G a) (G b) = 0) := by
  have hn := hv.1
  have va := hv.2 a ha; have vb := hv.2 b hb
  have wa := puV_w va; have wb := puV_w vb
  have sb := su_sb va vb
  unfold fX11_rises
  rw [p_isUp hv hw ha, xsBd_sm]
  by_cases ca : puW (G a) = 0
  · have ra := su_al0 la ca
    rw [pu_bt ca]
    unfold fX11_rises_J16
    rw [p_isUp hv hw ha, xsBd_sm, pu_bt ca, xsBd_sm]
    unfold fX11_rises_J29
    rw [p_isUp hv hw hb, xsBd_sm]
    by_cases cb : puW (G b) = 0
    · rw [pu_bt cb, xsBd_sm]
      refine ⟨0, rfl, by omega, ?_⟩
      unfold su_s; rw [ca, cb]; omega
    · rw [pu_bf cb, xsBd_sm]
      have m : 0 < puH (G a) * puW (G b) := Int.mul_pos ra (by omega)
      refine ⟨1, rfl, by omega, ?_⟩
      unfold su_s; rw [ca]; omega
  · rw [pu_bf ca, p_isUp hv hw hb, xsBd_sm]
    by_cases cb : puW (G b) = 0
    · have rb := su_al0 lb cb
      rw [pu_bt cb]
      unfold fX11_rises_J16
      rw [p_isUp hv hw ha, xsBd_sm, pu_bf ca, xsBd_sm]
      unfold fX11_rises_J29
      rw [p_isUp hv hw hb, xsBd_sm, pu_bt cb, xsBd_sm]
      have m : 0 < puH (G b) * puW (G a) := Int.mul_pos rb (by omega)
      refine ⟨-1, rfl, by omega, ?_⟩
      unfold su_s; rw [cb]; omega
    · rw [pu_bf cb]
      obtain ⟨h1, h2, h3, h4, -⟩ := hw.2 a ha
      obtain ⟨g1, g2, g3, g4, -⟩ := hw.2 b hb
      rw [p_of0 (by omega), p_of1 (by omega), p_of2 (by omega), p_of3 (by omega), p_of0 (by omega), p_of1 (by omega), p_of2 (by omega), p_of3 (by omega)]
      simp only [xsBd_sm, h1, h2, h3, h4, g1, g2, g3, g4, puI_sub, puI_mul]
      exact ⟨su_s (G a) (G b), rfl, sb, Iff.rfl, Iff.rfl⟩
theorem p_isBelow {n : Nat} {G : puG} {w : Nat → Int32} (hv : puVal n G) (hw : puMW n G w) {ey : Nat → Int64} {a b k : Nat} (ha : a < n) (hb : b < n) (hk : k < 324) {p : puP} (la : su_al (G a) p) (lb : su_al (G b) p) {Y D : Int} (e2 : ey k = puJ Y) (hD : 0 < D ∧ D ≤ 7984008) (r2 : (Y : Rat) = p.2 * (D : Rat)) (bY : -(999 * D) ≤ Y ∧ Y ≤ 999 * D) {up lo : Nat → Int64} (ua : su_U (G a) p D (up a) (lo a)) (ub : su_U (G b) p D (up b) (lo b)) : fX11_isBelow w ey up lo (puI (a : Int)) (puI (b : Int)) (puI (k : Int)) = some (puB (su_ah (G a) (G b) p a b)) := by
  have hn := hv.1
  have va := hv.2 a ha; have vb := hv.2 b hb
  obtain ⟨r, er, br, rl, rz⟩ := p_rises hv hw ha hb la lb
  obtain ⟨U, L, u1, u2, bL, bU, eU⟩ := ua
  obtain ⟨V, M, v1, v2, bM, bV, eV⟩ := ub
  have cm := su_cmp (wa := L) (wb := M) (D := D) bL.1 bM.1 hD.1 eU eV
  have cy : Y * L < U ↔ p.2 < su_y (G a) p := by
    have c := su_cmp (U := Y) (V := U) (wa := 1) (wb := L) (D := D) (ya := p.2) (by omega) bL.1 hD.1 (by rw [r2, show ((1 : Int) : Rat) = 1 by rfl]; grind) eU
    rw [Int.mul_one] at c
    exact c.1
  have k1 := pu_mb (v := U) (w := M) 60000000000000 1998 (by omega) (by omega) (by omega) (by omega)
  have k2 := pu_mb (v := V) (w := L) 60000000000000 1998 (by omega) (by omega) (by omega) (by omega)
  have k3 := pu_mb (v := Y) (w := L) 7976023992 1998 (by omega) (by omega) (by omega) (by omega)
  rw [puB_iff (su_ahs va vb la lb a b)]
  unfold fX11_isBelow
  simp (disch := omega) only [xsCk_in, puI_clN, u1, u2, v1, v2, e2, puJ_mul, puJ_sub, xsLt_eq]
  rw [show (0 : Int64) = puJ 0 by rfl]
  by_cases c : U * M = V * L
  case neg =>
    rw [xsBr_neg (by rw [puJ_eq (by omega) (by omega) (by omega) (by omega)]; omega)]
    have ne : ¬ su_y (G a) p = su_y (G b) p := fun q => c (cm.2.mpr q)
    by_cases d : 0 ≤ U * M - V * L
    · rw [xsBr_pos ((puJ_le (by omega) (by omega) (by omega) (by omega)).mpr d), puB_neg]
      rintro (h | ⟨h, -⟩)
      · have := cm.1.mpr h; omega
      · exact ne h
    · rw [xsBr_neg (fun q => d ((puJ_le (by omega) (by omega) (by omega) (by omega)).mp q)), puB_pos (Or.inl (cm.1.mp (by omega)))]
  have ye := cm.2.mp c
  rw [xsBr_pos (by rw [c, Int.sub_self])]
  have fin : ∀ g : Int, -8000000 ≤ g ∧ g ≤ 8000000 → fX11_isBelow_J100 (puI (a : Int)) (puI (b : Int)) (puI g) = some (puB (g < 0 ∨ (g = 0 ∧ a < b))) := by
    intro g hg
    unfold fX11_isBelow_J100
    rw [show (0 : Int32) = puI 0 by rfl]
    by_cases z : g = 0
    · rw [xsBr_pos (by rw [z])]
      by_cases y : b ≤ a
      · rw [xsBr_pos ((puI_leN (by omega) (by omega)).mpr y), puB_neg (by omega)]; rfl
      · rw [xsBr_neg (fun q => y ((puI_leN (by omega) (by omega)).mp q)), puB_pos (by omega)]
    · rw [xsBr_neg (by rw [puI_eq (by omega) (by omega) (by omega) (by omega)]; exact z)]
      by_cases y : 0 ≤ g
      · rw [xsBr_pos ((puI_le (by omega) (by omega) (by omega) (by omega)).mpr y), puB_neg (by omega)]; rfl
      · rw [xsBr_neg (fun q => y ((puI_le (by omega) (by omega) (by omega) (by omega)).mp q)), puB_pos (by omega)]
  unfold fX11_isBelow_J77
  by_cases d : U ≤ Y * L
  · have nb : ¬ p.2 < su_y (G a) p := fun q => by have := cy.mpr q; omega
    rw [xsBr_pos ((puJ_le (by omega) (by omega) (by omega) (by omega)).mpr d), xsBd_sm, xsBr_pos rfl, er, xsBd_sm, xsBd_sm, fin r br]
    refine congrArg some (puB_iff ?_)
    rw [rl, rz]
    constructor
    · rintro (h | h)
      · exact Or.inr ⟨ye, Or.inr (Or.inl ⟨nb, h⟩)⟩
      · exact Or.inr ⟨ye, Or.inr (Or.inr h)⟩
    · rintro (h | ⟨-, h | h | h⟩)
      · exact absurd h (by grind)
      · exact absurd h.1 nb
      · exact Or.inl h.2
      · exact Or.inr h
  · have nb : p.2 < su_y (G a) p := cy.mp (by omega)
    rw [xsBr_neg (fun q => d ((puJ_le (by omega) (by omega) (by omega) (by omega)).mp q)), xsBd_sm, xsBr_neg (by decide), er, xsBd_sm, puI_neg, xsBd_sm, fin (-r) (by omega)]
    refine congrArg some (puB_iff ?_)
    constructor
    · rintro (h | h)
      · exact Or.inr ⟨ye, Or.inl ⟨nb, by omega⟩⟩
      · exact Or.inr ⟨ye, Or.inr (Or.inr (by omega))⟩
    · rintro (h | ⟨-, h | h | h⟩)
      · exact absurd h (by grind)
      · exact Or.inl (by omega)
      · exact absurd nb h.1
      · exact Or.inr (by omega)
/-- a row that tells STATUS of those below m -/
def su_st (G : puG) (p : puP) (m c : Nat) (f : Nat → Int32) (g : Nat → Nat) : Prop := (∀ j, j < c → f j = puI (g j : Int) ∧ g j < m ∧ su_al (G (g j)) p) ∧ (∀ i j, i < j → j < c → su_ah (G (g i)) (G (g j)) p (g i) (g j)) ∧ ∀ s, s < m → su_al (G s) p → ∃ j, j < c ∧ g j = s
theorem p_lays33 {n : Nat} {G : puG} {w : Nat → Int32} (hv : puVal n G) (hw : puMW n G w) {ey : Nat → Int64} {m c k : Nat} (hm : m < n) (hk : k < 324) {p : puP} (la : su_al (G m) p) {Y D : Int} (e2 : ey k = puJ Y) (hD : 0 < D ∧ D ≤ 7984008) (r2 : (Y : Rat) = p.2 * (D : Rat)) (bY : -(999 * D) ≤ Y ∧ Y ≤ 999 * D) {o23 : (Nat → Int64) × (Nat → Int64)} (hu : ∀ s, s < m + 1 → su_al (G s) p → su_U (G s) p D (o23.1 s) (o23.2 s)) {f : Nat → Int32} {g : Nat → Nat} (hc : c ≤ m) (hst : su_st G p m c f g) :
    puOk (xsWh (fun s27 => fX11_laysStatus_L33 w ey (puI (k : Int)) (puI (m : Int)) o23 s27.1 s27.2) (puI (c : Int), f)) (fun r => ∃ j, j ≤ c ∧ r.1 = puI (j : Int) ∧ (∀ i, i < j → r.2 i = puI (g i : Int)) ∧ (∀ i, j < i → i ≤ c → r.2 i = puI (g (i - 1) : Int)) ∧ (∀ i, j ≤ i → i < c → su_ah (G m) (G (g i)) p m (g i)) ∧ ∀ i, i < j → su_ah (G (g i)) (G m) p (g i) m) := by
  have hn := hv.1
  obtain ⟨s1, s2, s3⟩ := hst
  refine puFor c (fun t z => ∃ j, j + t = c ∧ z.1 = puI (j : Int) ∧ (∀ i, i < j → z.2 i = puI (g i : Int)) ∧ (∀ i, j < i → i ≤ c → z.2 i = puI (g (i - 1) : Int)) ∧ (∀ i, j ≤ i → i < c → su_ah (G m) (G (g i)) p m (g i))) _ ?_ ?_ 0 _ (Nat.zero_le _) ⟨c, rfl, rfl, fun i hi => (s1 i hi).1, fun i h h2 => by omega, fun i h h2 => by omega⟩
  · rintro t ⟨y, f⟩ ht ⟨j, hj, rfl, q1, q2, q3⟩
    simp only at q1 q2
    obtain ⟨j', rfl⟩ : ∃ j', j = j' + 1 := ⟨j - 1, by omega⟩
    obtain ⟨-, gl, ga⟩ := s1 j' (by omega)
    simp only [fX11_laysStatus_L33]
    have e1 : puI ((j' + 1 : Nat) : Int) - (1 : Int32) = puI (j' : Int) := by rw [show (1 : Int32) = puI 1 by rfl, puI_sub]; congr 1; omega
    have e3 : puI ((j' + 1 : Nat) : Int) + (-1 : Int32) = puI (j' : Int) := by rw [show (-1 : Int32) = puI (-1) by rfl, puI_add]; congr 1; omega
    rw [xsBr_neg (by rw [show (0 : Int32) = puI 0 by rfl, puI_le (by omega) (by omega) (by omega) (by omega)]; omega), e1, e3, xsCk_in (by omega) (by omega) (by omega), puI_clN (by omega), puI_clN (by omega), q1 j' (by omega), p_isBelow hv hw hm (by omega) hk la ga e2 hD r2 bY (hu m (by omega) la) (hu (g j') (by omega) ga), xsBd_sm]
    by_cases c1 : su_ah (G m) (G (g j')) p m (g j')
    · rw [pu_bt c1, xsCk_in (by omega) (by omega) (by omega), xsCk_in (by omega) (by omega) (by omega), xsLt_eq, xsLt_eq]
      refine Or.inl ⟨_, rfl, j', by omega, rfl, fun i hi => ?_, fun i h h2 => ?_, fun i h h2 => ?_⟩
      · simp only
        rw [puUpd_ne (by omega)]; exact q1 i (by omega)
      · simp only
        by_cases e : i = j' + 1
        · subst e; rw [puUpd_eq]; rfl
        · rw [puUpd_ne e]; exact q2 i (by omega) h2
      · by_cases e : i = j'
        · subst e; exact c1
        · exact q3 i (by omega) h2
    · rw [pu_bf c1]
      refine Or.inr ⟨_, rfl, j' + 1, by omega, rfl, q1, q2, q3, fun i hi => ?_⟩
      have l : su_ah (G (g j')) (G m) p (g j') m := (su_tot (by omega)).resolve_left c1
      by_cases e : i = j'
      · subst e; exact l
      · exact su_tr (s2 i j' (by omega) (by omega)) l
  · rintro ⟨y, f⟩ ⟨j, hj, rfl, q1, q2, q3⟩
    simp only at q1 q2
    have j0 : j = 0 := by omega
    subst j0
    simp only [fX11_laysStatus_L33]
    rw [xsBr_pos (by rw [show (0 : Int32) = puI 0 by rfl, puI_le (by omega) (by omega) (by omega) (by omega)]; omega)]
    exact ⟨_, rfl, 0, by omega, rfl, q1, q2, q3, fun i hi => by omega⟩
theorem p_mstatus {n : Nat} {G : puG} {w : Nat → Int32} (hv : puVal n G) (hw : puMW n G w) {ex ey ed : Nat → Int64} {N : Nat} {P : Nat → puP} (he : puEvs N P ex ey ed) (hN : N ≤ 324) {k : Nat} (hk : k < N) {met : Nat → Int32} {up lo : Nat → Int64} : puOk (fX11_laysStatus w ex ey ed met up lo (puI (k : Int))) (fun o => o.1 = puI (puN (fun s => su_al (G s) (P k)) n : Int) ∧ ∃ g, su_st G (P k) n (puN (fun s => su_al (G s) (P k)) n) o.2.1 g) := by
  have hn := hv.1
  obtain ⟨X, Y, D, e1, e2, e3, hD, ⟨r1, r2⟩, bX, bY⟩ := id (he k hk)
  have key : puOk (xsWh (fun s6 => fX11_laysStatus_L4 w ex ey ed (puI (k : Int)) s6.1 s6.2.1 s6.2.2.1 s6.2.2.2.1 s6.2.2.2.2) ((0 : Int32), (0 : Int32), met, up, lo)) (fun o => o.1 = puI (puN (fun s => su_al (G s) (P k)) n : Int) ∧ ∃ g, su_st G (P k) n (puN (fun s => su_al (G s) (P k)) n) o.2.1 g) := by
    refine puFor1 n (fun m z => z.2.1 = puI (m : Int) ∧ z.1 = puI (puN (fun s => su_al (G s) (P k)) m : Int) ∧ (∃ g, su_st G (P k) m (puN (fun s => su_al (G s) (P k)) m) z.2.2.1 g) ∧ ∀ s, s < m → su_al (G s) (P k) → su_U (G s) (P k) D (z.2.2.2.1 s) (z.2.2.2.2 s)) _ ⟨rfl, rfl, ⟨fun _ => 0, fun j hj => by rw [puN_0] at hj; omega, fun i j _ hj => by rw [puN_0] at hj; omega, fun s hs => by omega⟩, fun s hs => by omega⟩ ?_ ?_
    · rintro m ⟨y1, y2, f, up, lo⟩ hm ⟨q1, q2, ⟨g, hst⟩, hu⟩
      simp only at q1 q2 hst hu
      subst q1; subst q2
      simp only [fX11_laysStatus_L4]
      rw [p_many hw, xsBd_sm, pu_go hm (by omega), p_isMet hv hw he hN hm hk, xsBd_sm]
      have cl := puN_le (fun s => su_al (G s) (P k)) m
      by_cases c1 : su_al (G m) (P k)
      case neg =>
        rw [pu_bf c1, xsBd_sm]
        simp only [fX11_laysStatus_J89]
        rw [xsLt_eq, puI_s1]
        refine ⟨_, rfl, rfl, by dsimp only; rw [puN_n c1], ⟨g, ?_⟩, fun s hs ha => ?_⟩
        · rw [puN_n c1]
          obtain ⟨s1, s2, s3⟩ := hst
          refine ⟨fun j hj => ⟨(s1 j hj).1, by have := (s1 j hj).2.1; omega, (s1 j hj).2.2⟩, s2, fun s hs ha => ?_⟩
          by_cases e : s = m
          · subst e; exact absurd ha c1
          · exact s3 s (by omega) ha
        · by_cases e : s = m
          · subst e; exact absurd ha c1
          · exact hu s (by omega) ha
      obtain ⟨o, eo, u, l, hul, ou, ol⟩ := p_laysY hv hw hm (show k < 324 by omega) e1 e2 e3 hD r1 r2 bX bY (up := up) (lo := lo)
      have hu' : ∀ s, s < m + 1 → su_al (G s) (P k) → su_U (G s) (P k) D (o.1 s) (o.2 s) := by
        intro s hs ha
        rw [ou, ol]
        by_cases e : s = m
        · subst e; rw [pk_uLs, pk_uLs]; exact hul
        · rw [pk_uLn e, pk_uLn e]; exact hu s (by omega) ha
      obtain ⟨r, er, j, hj, r0, t1, t2, t3, t4⟩ := p_lays33 hv hw hm (show k < 324 by omega) c1 e2 hD r2 bY hu' cl hst
      rw [pu_bt c1, xsBd_some eo, xsBd_some er]
      simp only [fX11_laysStatus_J78]
      rw [r0, xsCk_in (by omega) (by omega) (by omega), xsLt_eq, xsLt_eq, xsBd_sm, puI_clN (by omega)]
      simp only [fX11_laysStatus_J89]
      rw [xsLt_eq, puI_s1, puI_s1]
      refine ⟨_, rfl, rfl, by dsimp only; rw [puN_y c1], ?_, hu'⟩
      rw [puN_y c1]
      generalize puN (fun s => su_al (G s) (P k)) m = c at *
      obtain ⟨s1, s2, s3⟩ := hst
      refine ⟨puSh g j c m, fun i hi => ?_, fun i i' hii hi' => ?_, fun s hs ha => ?_⟩
      · simp only
        rcases Nat.lt_trichotomy i j with q | q | q
        · rw [puUpd_ne (by omega), t1 i q, puSh_lo q]
          exact ⟨rfl, by have := (s1 i (by omega)).2.1; omega, (s1 i (by omega)).2.2⟩
        · subst q
          rw [puUpd_eq, puSh_at]; exact ⟨rfl, by omega, c1⟩
        · rw [puUpd_ne (by omega), t2 i q (by omega), puSh_hi q (by omega)]
          exact ⟨rfl, by have := (s1 (i - 1) (by omega)).2.1; omega, (s1 (i - 1) (by omega)).2.2⟩
      · rcases Nat.lt_trichotomy i' j with q | q | q
        · rw [puSh_lo q, puSh_lo (by omega)]; exact s2 i i' hii (by omega)
        · subst q
          rw [puSh_at, puSh_lo hii]; exact t4 i hii
        · rw [puSh_hi q (by omega)]
          rcases Nat.lt_trichotomy i j with z | z | z
          · rw [puSh_lo z]; exact s2 i (i' - 1) (by omega) (by omega)
          · subst z
            rw [puSh_at]; exact t3 (i' - 1) (by omega) (by omega)
          · rw [puSh_hi z (by omega)]; exact s2 (i - 1) (i' - 1) (by omega) (by omega)
      · by_cases e : s = m
        · subst e; exact ⟨j, by omega, puSh_at⟩
        · obtain ⟨i, hi, rfl⟩ := s3 s (by omega) ha
          by_cases q : i < j
          · exact ⟨i, by omega, puSh_lo q⟩
          · exact ⟨i + 1, by omega, by rw [puSh_hi (by omega) (by omega)]; rfl⟩
    · rintro ⟨y1, y2, f, up, lo⟩ ⟨q1, q2, hg, hu⟩
      simp only at q1 q2 hg
      subst q1; subst q2
      simp only [fX11_laysStatus_L4]
      rw [p_many hw, xsBd_sm, pu_out (by omega)]
      exact ⟨_, rfl, rfl, hg⟩
  obtain ⟨r, er, hr⟩ := key
  unfold fX11_laysStatus
  rw [xsBd_some er]
  exact puOk_some hr
/-- the place in the row is the place in STATUS -/
theorem su_rank {n : Nat} {G : puG} {p : puP} {c : Nat} {f : Nat → Int32} {g : Nat → Nat} (h : su_st G p n c f g) {j : Nat} (hj : j < c) : su_rk n G p (g j) = j := by
  obtain ⟨s1, s2, s3⟩ := h
  unfold su_rk
  refine puN_img (f := g) (fun i hi => ⟨(s1 i (by omega)).2.1, (s1 i (by omega)).2.2, s2 i j hi hj⟩) (fun i i' hii hi' e => ?_) (fun s hs hp => ?_)
  · have q := s2 i i' hii (by omega)
    rw [e] at q
    exact su_irr q
  · obtain ⟨i, hi, rfl⟩ := s3 s hs hp.1
    refine ⟨i, ?_, rfl⟩
    rcases Nat.lt_trichotomy i j with q | q | q
    · exact q
    · subst q; exact absurd hp.2 su_irr
    · exact absurd (su_tr hp.2 (s2 j i q hi)) su_irr
