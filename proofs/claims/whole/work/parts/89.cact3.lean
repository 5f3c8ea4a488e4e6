/-! PURE: ACTS: one act -/
theorem p_sgnM0 {tp told : Nat → Int32} {L p : Nat} {bg : Int32} (hL : L ≤ 400) (hp : p ≤ L) : puOk (fX11_readsSigned tp (puI (p : Int)) (puI (L : Int)) bg told 0) (fun o => o.1 = puB (ac_q tp L p) ∧ (¬ ac_q tp L p → o.2.2.1 = puI (ac_f tp L p : Int)) ∧ (ac_q tp L p → o.2.1 = puI (ac_e tp L p : Int) ∧ o.2.2.2 0 = puI (ac_z tp L p) ∧ ∀ j, j ≠ 0 → o.2.2.2 j = told j)) := p_sgnM (ix := 0) hL hp (by omega)
theorem p_sgnM1 {tp told : Nat → Int32} {L p : Nat} {bg : Int32} (hL : L ≤ 400) (hp : p ≤ L) : puOk (fX11_readsSigned tp (puI (p : Int)) (puI (L : Int)) bg told 1) (fun o => o.1 = puB (ac_q tp L p) ∧ (¬ ac_q tp L p → o.2.2.1 = puI (ac_f tp L p : Int)) ∧ (ac_q tp L p → o.2.1 = puI (ac_e tp L p : Int) ∧ o.2.2.2 1 = puI (ac_z tp L p) ∧ ∀ j, j ≠ 1 → o.2.2.2 j = told j)) := p_sgnM (ix := 1) hL hp (by omega)
theorem p_reads13 {tp told : Nat → Int32} {L p : Nat} {bg : Int32} (hL : L ≤ 400) (hp : p ≤ L) : fX11_reads tp (puI (p : Int)) (puI (L : Int)) bg told 1 0 (3 : Int32) = some (puB (ac_k tp L p 3), puI (ac_d tp L (ac_s tp L p) : Int), puI (ac_s tp L p : Int), upd told 1 (puI (ac_n tp (ac_s tp L p) (ac_d tp L (ac_s tp L p))))) := p_reads (ix := 1) (hi := 3) hL hp (by omega) (by omega) (by omega)
theorem ac_tint {n : Nat} {G : puG} {v : xsV} {w : Nat → Int32} (hR : ac_R n G v w) {s : Nat} (hs : s < n) {z : Int} (z0 : 0 ≤ z) (z3 : z ≤ 3) : ac_R n (ch_set G s ((G s).1, (G s).2.1, (G s).2.2.1, (G s).2.2.2.1, z)) (v.1, v.2.1, v.2.2.1, v.2.2.2.1, upd v.2.2.2.2.1 s (puI z), puI (n : Int)) (upd w (1 + 5 * s + 4) (puI z)) := by
  obtain ⟨w1, w2, w3⟩ := hR
  have lk : ∀ j, j < n → puLk (G j) (ch_set G s ((G s).1, (G s).2.1, (G s).2.2.1, (G s).2.2.2.1, z) j) := by
    intro j hj
    unfold ch_set
    by_cases ej : j = s
    · subst ej; rw [if_pos rfl]; exact ⟨rfl, rfl, rfl, rfl⟩
    · rw [if_neg ej]; exact ⟨rfl, rfl, rfl, rfl⟩
  have vv : puVal n (ch_set G s ((G s).1, (G s).2.1, (G s).2.2.1, (G s).2.2.2.1, z)) := by
    refine ch_setV w1 ?_
    obtain ⟨v1, -, v3⟩ := w1.2 s hs
    exact ⟨v1, ⟨z0, z3⟩, v3⟩
  refine ⟨vv, ⟨fun j hj => ?_, fun j hj => ?_, rfl⟩, ?_⟩
  · obtain ⟨k1, k2, k3, k4⟩ := w2.1 j hj
    obtain ⟨l1, l2, l3, l4⟩ := lk j hj
    unfold puQ
    rw [← l1, ← l2, ← l3, ← l4]
    exact ⟨k1, k2, k3, k4⟩
  · unfold ch_set
    dsimp only
    by_cases ej : j = s
    · subst ej; rw [if_pos rfl, puUpd_eq]
    · rw [if_neg ej, puUpd_ne ej]; exact w2.2.1 j hj
  · obtain ⟨k1, k2, k3, k4, -⟩ := w3.2 s hs
    have st : ∀ j, j ≠ 1 + 5 * s + 4 → upd w (1 + 5 * s + 4) (puI z) j = w j := fun j hj => puUpd_ne hj
    refine ⟨(st 0 (by omega)).trans w3.1, fun j hj => ?_⟩
    unfold ch_set
    by_cases ej : j = s
    · subst ej
      rw [if_pos rfl]
      exact ⟨(st _ (by omega)).trans k1, (st _ (by omega)).trans k2, (st _ (by omega)).trans k3, (st _ (by omega)).trans k4, puUpd_eq _ _ _⟩
    · rw [if_neg ej]
      obtain ⟨r1, r2, r3, r4, r5⟩ := w3.2 j hj
      exact ⟨(st _ (by omega)).trans r1, (st _ (by omega)).trans r2, (st _ (by omega)).trans r3, (st _ (by omega)).trans r4, (st _ (by omega)).trans r5⟩
theorem p_act {by0 tp : Nat → Int32} {L p : Nat} (hL : L ≤ 400) (hb : ∀ i, i < L → by0 i = tp i) (hp : p ≤ L) {n : Nat} {G : puG} {v : xsV} {w : Nat → Int32} (hR : ac_R n G v w) {tc tm : Nat → Int32} {nu bg ld : Int32} : ∃ oc om, fX6_readAct by0 tc (puI (L : Int)) (-1) (puI (ac_s tp L p : Int)) nu v.1 v.2.1 v.2.2.1 v.2.2.2.1 v.2.2.2.2.1 v.2.2.2.2.2 = some oc ∧ fX11_readAct w ld tp (puI (p : Int)) (puI (L : Int)) bg tm = some om ∧ ((oc.1 = 1 ∧ om.1 = 1 ∧ oc.2.2.1 = -1 ∧ ∃ (q n' : Nat) (G' : puG), q ≤ L ∧ oc.2.2.2.1 = puI (q : Int) ∧ om.2.2.2.1 = puI (q : Int) ∧ ac_R n' G' oc.2.2.2.2.2 om.2.1) ∨ (oc.1 = 0 ∧ om.1 = 0 ∧ ∃ k : Nat, k ≤ L ∧ oc.2.2.1 = puI (k : Int) ∧ om.2.2.2.2.1 = puI (k : Int))) := by
  have hR' := hR
  obtain ⟨w1, w2, w3⟩ := hR'
  have hn := w1.1
  have ho : ac_s tp L p ≤ L := (ac_spec hp).2.1
  have id : ac_s tp L (ac_s tp L p) = ac_s tp L p := ac_idem hp
  unfold fX11_readAct
  rw [p_letters hL hp, xsBd_sm]
  generalize ac_s tp L p = o at *
  obtain ⟨l1, l2, -⟩ := ac_spec (P := ac_P tp 97 122) ho
  have b1 : o ≤ ac_l tp L o := l1
  have he : ac_l tp L o ≤ L := l2
  have W : ∀ ks, fX6_readWord by0 (puI (L : Int)) (puI (o : Int)) ks = some (puB (ac_w tp ks o (ac_l tp L o)), puE (ac_w tp ks o (ac_l tp L o)) (puI (ac_l tp L o : Int)) (puI (o : Int))) := fun ks => by rw [p_readWord hL hb ho, id]
  have M : ∀ ks, fX11_isWord tp (puI (ac_l tp L o : Int)) (puI (o : Int)) ks = some (puB (ac_w tp ks o (ac_l tp L o))) := fun ks => p_isWord b1 (by omega)
  clear l1 l2
  generalize ac_l tp L o = e at *
  obtain ⟨u1, u2, u3, u4⟩ := ac_dsb (tp := tp) he
  have cl0 : (0 : Int32).toNatClampNeg = 0 := rfl
  have cl1 : (1 : Int32).toNatClampNeg = 1 := rfl
  have cl2 : (2 : Int32).toNatClampNeg = 2 := rfl
  have cl3 : (3 : Int32).toNatClampNeg = 3 := rfl
  have cl4 : (4 : Int32).toNatClampNeg = 4 := rfl
  have i0 : vp_in (0 : Int32) 5 := puI_in (a := 0) (by omega) (by omega) (by omega)
  have i1 : vp_in (1 : Int32) 5 := puI_in (a := 1) (by omega) (by omega) (by omega)
  have i2 : vp_in (2 : Int32) 5 := puI_in (a := 2) (by omega) (by omega) (by omega)
  have i3 : vp_in (3 : Int32) 5 := puI_in (a := 3) (by omega) (by omega) (by omega)
  have i4 : vp_in (4 : Int32) 5 := puI_in (a := 4) (by omega) (by omega) (by omega)
  have n10 : ¬ (1 : Int32) = 0 := by decide
  have en1 : puI (n : Int) - (1 : Int32) = puI ((n : Int) - 1) := by rw [show (1 : Int32) = puI 1 by rfl, puI_sub]
  have num := p_num (fa := -1) (nu := nu) (hi := (n : Int) - 1) hL hb he (by omega) (by omega)
  unfold fX6_readAct fX6_refuse
  dsimp only
  rw [W 0, M 0, xsBd_sm, xsBd_sm]
  dsimp only
  by_cases c0 : ac_w tp 0 o e
  · rw [pu_bt c0, pu_bt c0, puE_pos c0]
    rcases p_segL (v := v) (tc := tc) (tm := tm) (nu := nu) (bg := puI (o : Int)) (a0 := puI (o : Int)) hL hb he with ⟨oc, om, k, hk, e1, e2, z1, z2, z3, z4⟩ | ⟨q, tc', tm', nu', bg', x, y, a, b, t, hq, e1, e2, ⟨t1, t2, t3, t4, t5, t6⟩, ⟨x1, x2, x3, x4, x5⟩, ⟨y1, y2, y3, y4, y5⟩⟩
    · rw [xsBd_some e1, xsBd_some e2, z1, xsCk_pos xsB_0, xsBr_pos z2]
      exact ⟨_, _, rfl, rfl, Or.inr ⟨rfl, rfl, k, hk, z3, z4⟩⟩
    rw [e1, xsBd_some e2]
    unfold fX6_readSeg_J68 fX6_refuse fX11_wrongAt
    have f24 : (puI (n : Int) = (24 : Int32)) ↔ n = 24 := by rw [show (24 : Int32) = puI ((24 : Nat) : Int) by rfl]; exact puI_eqN (by omega) (by omega)
    rw [xsBr_neg n10, p_many w3, w2.2.2, p_isFull hn]
    simp only [xsBd_sm]
    rw [xsBr_iff f24]
    by_cases f : n = 24
    · rw [pu_bt f, xsBr_pos f]
      simp only [xsBd_sm, xsCk_pos xsB_0]
      exact ⟨_, _, rfl, rfl, Or.inr ⟨rfl, rfl, o, ho, rfl, rfl⟩⟩
    obtain ⟨o1, eo1, ho1⟩ := p_append w2 (show n < 24 by omega) t1 t2 t3 t4 (t := t)
    rw [w2.2.2] at eo1
    obtain ⟨o2, eo2, g1, g2, g3⟩ := p_adds w3 (show n < 24 by omega) (ld := ld) t1 t2 t3 t4 (t := t)
    rw [pu_bf f, xsBr_neg f]
    simp only [cl0, cl1, cl2, cl3, cl4, x1, x2, x3, x4, x5, y1, y2, y3, y4, y5, xsCk_pos i0, xsCk_pos i1, xsCk_pos i2, xsCk_pos i3, xsCk_pos i4, eo1, eo2, xsBd_sm, xsCk_pos xsB_1]
    exact ⟨_, _, rfl, rfl, Or.inl ⟨rfl, rfl, rfl, q, n + 1, ch_add n G (ch_o x y a b t), hq, rfl, rfl, ch_addV w1 (by omega) (ch_oV t1 t2 t3 t4 ⟨t5, t6⟩), ho1, g3⟩⟩
  rw [pu_bf c0, pu_bf c0, puE_neg c0, W 2, M 2, xsBd_sm, xsBd_sm]
  dsimp only
  have nat : ac_k tp L e ((n : Int) - 1) → ∃ s : Nat, ac_n tp (ac_s tp L e) (ac_d tp L (ac_s tp L e)) = (s : Int) ∧ s < n := fun k => by
    have k2 := k.2
    exact ⟨(ac_n tp (ac_s tp L e) (ac_d tp L (ac_s tp L e))).toNat, by omega, by omega⟩
  by_cases c2 : ac_w tp 2 o e
  · rw [pu_bt c2, pu_bt c2, puE_pos c2]
    unfold fX6_readCut
    rw [w2.2.2, p_many w3, en1, num, xsBd_sm, xsBd_sm]
    dsimp only
    rw [en1, p_reads0 hL he (by omega) (by omega), xsBd_sm]
    dsimp only
    by_cases k : ac_k tp L e ((n : Int) - 1)
    case neg =>
      rw [pu_bf k, pu_bf k, puE_neg k, xsBd_sm]
      dsimp only
      rw [xsCk_pos xsB_0]
      exact ⟨_, _, rfl, rfl, Or.inr ⟨rfl, rfl, _, u1, rfl, rfl⟩⟩
    obtain ⟨s, es, hs⟩ := nat k
    rw [pu_bt k, pu_bt k, puE_pos k, es]
    obtain ⟨o1, eo1, ho1⟩ := p_drop w2 hn hs
    rw [w2.2.2] at eo1
    obtain ⟨o2, eo2, g1, g2⟩ := p_cuts w3 hn hs (ld := ld)
    rw [cl0, puUpd_eq, xsCk_pos i0, xsBd_some eo1, xsBd_some eo2, xsBd_sm]
    dsimp only
    rw [xsCk_pos xsB_1]
    exact ⟨_, _, rfl, rfl, Or.inl ⟨rfl, rfl, rfl, _, n - 1, ch_cut G s, u2, rfl, rfl, ch_cutV w1 hs, ho1, g2⟩⟩
  rw [pu_bf c2, pu_bf c2, puE_neg c2, W 3, M 3, xsBd_sm, xsBd_sm]
  dsimp only
  by_cases c3 : ac_w tp 3 o e
  · rw [pu_bt c3, pu_bt c3, puE_pos c3]
    unfold fX6_readMove
    rw [w2.2.2, p_many w3, en1, num, xsBd_sm, xsBd_sm]
    dsimp only
    rw [en1, p_reads2 hL he (by omega) (by omega), xsBd_sm]
    dsimp only
    by_cases k : ac_k tp L e ((n : Int) - 1)
    case neg =>
      rw [pu_bf k, pu_bf k, puE_neg k, xsBd_sm]
      dsimp only
      rw [xsCk_pos xsB_0]
      exact ⟨_, _, rfl, rfl, Or.inr ⟨rfl, rfl, _, u1, rfl, rfl⟩⟩
    obtain ⟨s, es, hs⟩ := nat k
    rw [pu_bt k, pu_bt k, puE_pos k, es]
    generalize ac_d tp L (ac_s tp L e) = e2 at *
    obtain ⟨q1, -, q3, -⟩ := ac_dsb (tp := tp) u2
    rw [p_readWord hL hb u2, p_passes hL u2, xsBd_sm, xsBd_sm]
    dsimp only
    by_cases wd : ac_w tp 4 (ac_s tp L e2) (ac_l tp L (ac_s tp L e2))
    case neg =>
      rw [pu_bf wd, pu_bf wd, puE_neg wd]
      unfold fX6_refuse
      simp only [xsBd_sm, xsCk_pos xsB_0]
      exact ⟨_, _, rfl, rfl, Or.inr ⟨rfl, rfl, _, q1, rfl, rfl⟩⟩
    rw [pu_bt wd, pu_bt wd, puE_pos wd]
    generalize ac_l tp L (ac_s tp L e2) = q at *
    obtain ⟨r, er, hr⟩ := p_mv2 (v := v) (tc := tc) (nu := puI (s : Int)) hL hb q3
    obtain ⟨⟨m0, m1, m2, m3⟩, em, hm0, hm1, hm2⟩ := p_sgnM0 (told := upd tm 2 (puI (s : Int))) (bg := puI (ac_s tp L e2 : Int)) hL q3
    simp only at hm0 hm1 hm2
    rw [xsBd_some er, xsBd_some em]
    rcases hr with ⟨d1, x, rfl, x1, x2⟩ | ⟨d1, d2, x, rfl, x1, x2⟩ | ⟨d1, d2, tc', nu', rfl, x1, x2⟩
    · rw [puB_neg d1] at hm0
      subst hm0
      simp only [xsSm, xsBd_sm, x1, xsCk_pos xsB_0]
      rw [xsBr_T]
      exact ⟨_, _, rfl, rfl, Or.inr ⟨rfl, rfl, _, ac_fb q3, x2, hm1 d1⟩⟩
    · rw [puB_pos d1] at hm0
      subst hm0
      obtain ⟨rfl, y1, y2⟩ := hm2 d1
      obtain ⟨⟨j0, j1, j2, j3⟩, ej, hj0, hj1, hj2⟩ := p_sgnM1 (told := m3) (bg := m2) hL (ac_eb (tp := tp) q3)
      simp only at hj0 hj1 hj2
      rw [puB_neg d2] at hj0
      subst hj0
      rw [xsBr_neg n10, xsBd_some ej, xsBr_pos rfl]
      simp only [xsSm, xsBd_sm, x1, xsCk_pos xsB_0]
      exact ⟨_, _, rfl, rfl, Or.inr ⟨rfl, rfl, _, ac_fb (ac_eb q3), x2, hj1 d2⟩⟩
    · rw [puB_pos d1] at hm0
      subst hm0
      obtain ⟨rfl, y1, y2⟩ := hm2 d1
      obtain ⟨⟨j0, j1, j2, j3⟩, ej, hj0, hj1, hj2⟩ := p_sgnM1 (told := m3) (bg := m2) hL (ac_eb (tp := tp) q3)
      simp only at hj0 hj1 hj2
      rw [puB_pos d2] at hj0
      subst hj0
      obtain ⟨rfl, y3, y4⟩ := hj2 d2
      have a0 : j3 0 = puI (ac_z tp L q) := (y4 0 (by omega)).trans y1
      have a2 : j3 2 = puI (s : Int) := (y4 2 (by omega)).trans ((y2 2 (by omega)).trans (puUpd_eq _ _ _))
      have z1 := ac_zb (tp := tp) q3
      have z2 := ac_zb (tp := tp) (ac_eb (tp := tp) q3)
      have q4 := ac_eb (tp := tp) (ac_eb (tp := tp) q3)
      rw [xsBr_neg n10, xsBd_some ej, xsBr_neg n10]
      simp only [xsSm]
      unfold fX6_readMove_J73 fX6_refuse fX11_wrongAt
      generalize ac_e tp L (ac_e tp L q) = q' at *
      generalize ac_z tp L (ac_e tp L q) = zb at *
      generalize ac_z tp L q = za at *
      unfold puInC at z1 z2
      simp only [cl0, cl1, cl2, xsCk_pos i0, xsCk_pos i1, xsCk_pos i2, a0, a2, y3, x1, x2]
      rw [puI_l (by omega) (by omega), puI_l (by omega) (by omega), p_canShift (w2.1 s hs) (w1.2 s hs) (by omega) (by omega) (by omega) (by omega) (by omega), p_canMove w1 w3 hs (by omega) (by omega) (by omega) (by omega)]
      simp only [xsBd_sm]
      by_cases cm : ch_can (G s) za zb
      case neg =>
        rw [pu_bf cm, pu_bf cm]
        simp only [xsBd_sm, xsCk_pos xsB_0]
        exact ⟨_, _, rfl, rfl, Or.inr ⟨rfl, rfl, o, ho, rfl, rfl⟩⟩
      obtain ⟨o1, eo1, ho1⟩ := p_shift w2 hn hs za zb
      obtain ⟨o2, eo2, g1, g2⟩ := p_moves w1 w3 hs (ld := ld) cm
      rw [pu_bt cm, pu_bt cm, xsBd_some eo1, xsBd_some eo2, xsBd_sm]
      dsimp only
      rw [xsCk_pos xsB_1]
      refine ⟨_, _, rfl, rfl, Or.inl ⟨rfl, rfl, rfl, q', n, ch_set G s (ch_mv (G s) za zb), q4, rfl, rfl, ch_setV w1 (ch_mvV (w1.2 s hs) cm), ?_, g2⟩⟩
      exact ⟨ho1.1, ho1.2.1, rfl⟩
  rw [pu_bf c3, pu_bf c3, puE_neg c3, W 1, M 1, xsBd_sm, xsBd_sm]
  dsimp only
  by_cases c1 : ac_w tp 1 o e
  · rw [pu_bt c1, pu_bt c1, puE_pos c1]
    unfold fX6_readTint
    rw [w2.2.2, p_many w3, en1, num, xsBd_sm, xsBd_sm]
    dsimp only
    rw [en1, p_reads0 hL he (by omega) (by omega), xsBd_sm]
    dsimp only
    by_cases k : ac_k tp L e ((n : Int) - 1)
    case neg =>
      rw [pu_bf k, pu_bf k, puE_neg k, xsBd_sm]
      dsimp only
      rw [xsCk_pos xsB_0]
      exact ⟨_, _, rfl, rfl, Or.inr ⟨rfl, rfl, _, u1, rfl, rfl⟩⟩
    obtain ⟨s, es, hs⟩ := nat k
    rw [pu_bt k, pu_bt k, puE_pos k, es]
    generalize ac_d tp L (ac_s tp L e) = e2 at *
    obtain ⟨q1, q2, -, q4⟩ := ac_dsb (tp := tp) u2
    rw [p_num3 hL hb u2, p_reads13 hL u2, xsBd_sm, xsBd_sm]
    dsimp only
    by_cases k3 : ac_k tp L e2 3
    case neg =>
      rw [pu_bf k3, pu_bf k3, puE_neg k3, xsBd_sm]
      dsimp only
      rw [xsCk_pos xsB_0]
      exact ⟨_, _, rfl, rfl, Or.inr ⟨rfl, rfl, _, q1, rfl, rfl⟩⟩
    have k32 := k3.2
    have T := ac_tint hR hs q4 k32
    have eI : (1 : Int32) + (5 : Int32) * puI (s : Int) + (4 : Int32) = puI ((1 + 5 * s + 4 : Nat) : Int) := by rw [show (5 : Int32) = puI 5 by rfl, show (1 : Int32) = puI 1 by rfl, show (4 : Int32) = puI 4 by rfl, puI_mul, puI_add, puI_add]; congr 1
    generalize ac_n tp (ac_s tp L e2) (ac_d tp L (ac_s tp L e2)) = tz at *
    have t0 : upd (upd tm 0 (puI (s : Int))) 1 (puI tz) 0 = puI (s : Int) := rfl
    have t1 : upd (upd tm 0 (puI (s : Int))) 1 (puI tz) 1 = puI tz := rfl
    rw [pu_bt k3, pu_bt k3, puE_pos k3, cl0, cl1, t0, t1, eI, xsCk_pos i0, xsCk_pos i1, xsCk_in (by omega) (by omega) (by omega), xsCk_in (by omega) (by omega) (by omega), xsLt_eq, xsLt_eq, puI_clN (by omega), puI_clN (by omega), xsBd_sm]
    dsimp only
    rw [xsCk_pos xsB_1]
    exact ⟨_, _, rfl, rfl, Or.inl ⟨rfl, rfl, rfl, _, n, _, q2, rfl, rfl, T⟩⟩
  rw [pu_bf c1, pu_bf c1, puE_neg c1, W 5, M 5]
  simp only [xsBd_sm]
  by_cases c5 : ac_w tp 5 o e
  · obtain ⟨o1, eo1, ho1⟩ := p_rotate w1 w2
    obtain ⟨o2, eo2, g1, g2⟩ := p_turns w1 w3 (ld := ld)
    rw [pu_bt c5, pu_bt c5, puE_pos c5, xsBd_some eo1, xsBd_some eo2]
    exact ⟨_, _, rfl, rfl, Or.inl ⟨rfl, rfl, rfl, e, n, ch_turn G, he, rfl, rfl, ch_turnV w1, ho1, g2⟩⟩
  rw [pu_bf c5, pu_bf c5, puE_neg c5, xsCk_pos xsB_0]
  exact ⟨_, _, rfl, rfl, Or.inr ⟨rfl, rfl, o, ho, rfl, rfl⟩⟩
