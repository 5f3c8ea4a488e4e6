/-! PURE: ACTS: the acts -/
def ac_R (n : Nat) (G : puG) (v : xsV) (w : Nat → Int32) : Prop := puVal n G ∧ puKS n G v ∧ puMW n G w
theorem p_passes {tp : Nat → Int32} {L p ks : Nat} {bg : Int32} (hL : L ≤ 400) (hp : p ≤ L) : fX11_passesWord tp (puI (p : Int)) (puI (L : Int)) bg ks = some (puB (ac_w tp ks (ac_s tp L p) (ac_l tp L (ac_s tp L p))), puE (ac_w tp ks (ac_s tp L p) (ac_l tp L (ac_s tp L p))) (puI (ac_l tp L (ac_s tp L p) : Int)) (puI (ac_s tp L p : Int)), puI (ac_s tp L p : Int)) := by
  unfold fX11_passesWord
  have ho : ac_s tp L p ≤ L := (ac_spec hp).2.1
  obtain ⟨l1, l2, -⟩ := ac_spec (P := ac_P tp 97 122) ho
  have b1 : ac_s tp L p ≤ ac_l tp L (ac_s tp L p) := l1
  have b2 : ac_l tp L (ac_s tp L p) ≤ L := l2
  rw [p_letters hL hp, xsBd_sm]
  dsimp only
  rw [p_isWord b1 (by omega), xsBd_sm]
  by_cases c : ac_w tp ks (ac_s tp L p) (ac_l tp L (ac_s tp L p))
  · rw [pu_bt c, puB_pos c, puE_pos c]
  · rw [pu_bf c, puB_neg c, puE_neg c]
def ac_T (tc : Nat → Int32) (j : Nat) (z : Int) : Prop := tc j = puI z
theorem p_seg4 {by0 tp : Nat → Int32} {L : Nat} (hL : L ≤ 400) (hb : ∀ i, i < L → by0 i = tp i) {v : xsV} : ∀ f i, i + f = 4 → ∀ (q : Nat) (tc tm : Nat → Int32) (nu bg : Int32), q ≤ L → (∀ j, j < i → ∃ z, puInC z ∧ tc j = puI z ∧ tm j = puI z) → ∃ rc rm, xsWh (fun s6 => fX6_readSeg_L2 by0 (puI (L : Int)) v.1 v.2.1 v.2.2.1 v.2.2.2.1 v.2.2.2.2.1 v.2.2.2.2.2 s6.1 s6.2.1 s6.2.2.1 s6.2.2.2.1 s6.2.2.2.2) (puI (i : Int), tc, (-1 : Int32), puI (q : Int), nu) = some rc ∧ xsWh (fun s5 => fX11_readsSegment_L2 tp (puI (L : Int)) s5.1 s5.2.1 s5.2.2.1 s5.2.2.2) (puI (i : Int), puI (q : Int), bg, tm) = some rm ∧ ((∃ xc xm, ∃ k : Nat, k ≤ L ∧ rc = .inl xc ∧ rm = .inl xm ∧ xc.1 = 0 ∧ xm.1 = 0 ∧ xc.2.2.1 = puI (k : Int) ∧ xm.2.2.1 = puI (k : Int)) ∨ (∃ (q' : Nat) (tc' tm' : Nat → Int32) (nu' bg' : Int32), q' ≤ L ∧ rc = .inr (tc', -1, puI (q' : Int), nu') ∧ rm = .inr (puI (q' : Int), bg', tm') ∧ ∀ j, j < 4 → ∃ z, puInC z ∧ tc' j = puI z ∧ tm' j = puI z)) := by
  intro f
  induction f with
  | zero =>
    intro i e q tc tm nu bg hq h
    obtain rfl : i = 4 := by omega
    have e1 : fX6_readSeg_L2 by0 (puI (L : Int)) v.1 v.2.1 v.2.2.1 v.2.2.2.1 v.2.2.2.2.1 v.2.2.2.2.2 (puI ((4 : Nat) : Int)) tc (-1) (puI (q : Int)) nu = some (.inr (.inr (tc, -1, puI (q : Int), nu))) := by
      unfold fX6_readSeg_L2
      rw [xsBr_pos (by decide)]
    have e2 : fX11_readsSegment_L2 tp (puI (L : Int)) (puI ((4 : Nat) : Int)) (puI (q : Int)) bg tm = some (.inr (.inr (puI (q : Int), bg, tm))) := by
      unfold fX11_readsSegment_L2
      rw [xsBr_pos (by decide)]
    exact ⟨_, _, xsWh_exit e1, xsWh_exit e2, Or.inr ⟨q, tc, tm, nu, bg, hq, rfl, rfl, h⟩⟩
  | succ f ih =>
    intro i e q tc tm nu bg hq h
    obtain ⟨⟨k0, k1, k2, k3⟩, ek, hk0, hk1, hk2⟩ := p_sgnK (fa := -1) (nu := nu) hL hb hq
    obtain ⟨⟨m0, m1, m2, m3⟩, em, hm0, hm1, hm2⟩ := p_sgnM (told := tm) (ix := i) (bg := bg) hL hq (by omega)
    simp only at hk0 hk1 hk2 hm0 hm1 hm2
    have lt4 : ¬ (4 : Int32) ≤ puI (i : Int) := by rw [show (4 : Int32) = puI ((4 : Nat) : Int) by rfl, puI_leN (by omega) (by omega)]; omega
    by_cases c : ac_q tp L q
    case neg =>
      rw [puB_neg c] at hk0 hm0
      subst hk0
      subst hm0
      have e1 : fX6_readSeg_L2 by0 (puI (L : Int)) v.1 v.2.1 v.2.2.1 v.2.2.2.1 v.2.2.2.2.1 v.2.2.2.2.2 (puI (i : Int)) tc (-1) (puI (q : Int)) nu = some (.inr (.inl ((0 : Int32), tc, k1, k2, k3, v.1, v.2.1, v.2.2.1, v.2.2.2.1, v.2.2.2.2.1, v.2.2.2.2.2))) := by
        unfold fX6_readSeg_L2
        rw [xsBr_neg lt4, xsBd_some ek, xsBr_pos rfl]
      have e2 : fX11_readsSegment_L2 tp (puI (L : Int)) (puI (i : Int)) (puI (q : Int)) bg tm = some (.inr (.inl ((0 : Int32), m1, m2, m3))) := by
        unfold fX11_readsSegment_L2
        rw [xsBr_neg lt4, xsBd_some em, xsBr_pos rfl]
      exact ⟨_, _, xsWh_exit e1, xsWh_exit e2, Or.inl ⟨_, _, ac_f tp L q, ac_fb hq, rfl, rfl, rfl, rfl, hk1 c, hm1 c⟩⟩
    rw [puB_pos c] at hk0 hm0
    subst hk0
    subst hm0
    obtain ⟨rfl, rfl, rfl⟩ := hk2 c
    obtain ⟨rfl, t1, t2⟩ := hm2 c
    have e1 : fX6_readSeg_L2 by0 (puI (L : Int)) v.1 v.2.1 v.2.2.1 v.2.2.2.1 v.2.2.2.2.1 v.2.2.2.2.2 (puI (i : Int)) tc (-1) (puI (q : Int)) nu = some (.inl (puI ((i + 1 : Nat) : Int), upd tc i (puI (ac_z tp L q)), -1, puI (ac_e tp L q : Int), puI (ac_z tp L q))) := by
      unfold fX6_readSeg_L2
      rw [xsBr_neg lt4, xsBd_some ek, xsBr_neg (show ¬ (1 : Int32) = 0 by decide), xsCk_in (by omega) (by omega) (by omega), xsLt_eq, xsLt_eq, puI_clN (by omega), puI_s1]
    have e2 : fX11_readsSegment_L2 tp (puI (L : Int)) (puI (i : Int)) (puI (q : Int)) bg tm = some (.inl (puI ((i + 1 : Nat) : Int), puI (ac_e tp L q : Int), m2, m3)) := by
      unfold fX11_readsSegment_L2
      rw [xsBr_neg lt4, xsBd_some em, xsBr_neg (show ¬ (1 : Int32) = 0 by decide), xsLt_eq, puI_s1]
    obtain ⟨rc, rm, h1, h2, h3⟩ := ih (i + 1) (by omega) (ac_e tp L q) (upd tc i (puI (ac_z tp L q))) m3 (puI (ac_z tp L q)) m2 (ac_eb hq) (fun j hj => by
      by_cases y : j = i
      · subst y
        exact ⟨ac_z tp L q, ac_zb hq, puUpd_eq _ _ _, t1⟩
      · rw [puUpd_ne y, t2 j y]
        exact h j (by omega))
    exact ⟨rc, rm, xsWh_back e1 h1, xsWh_back e2 h2, h3⟩
theorem p_reads0 {tp told : Nat → Int32} {L p : Nat} {bg : Int32} {hi : Int} (hL : L ≤ 400) (hp : p ≤ L) (h1 : -10 ≤ hi) (h2 : hi ≤ 1000) : fX11_reads tp (puI (p : Int)) (puI (L : Int)) bg told 0 0 (puI hi) = some (puB (ac_k tp L p hi), puI (ac_d tp L (ac_s tp L p) : Int), puI (ac_s tp L p : Int), upd told 0 (puI (ac_n tp (ac_s tp L p) (ac_d tp L (ac_s tp L p))))) := p_reads (ix := 0) hL hp (by omega) h1 h2
theorem p_reads1 {tp told : Nat → Int32} {L p : Nat} {bg : Int32} {hi : Int} (hL : L ≤ 400) (hp : p ≤ L) (h1 : -10 ≤ hi) (h2 : hi ≤ 1000) : fX11_reads tp (puI (p : Int)) (puI (L : Int)) bg told 1 0 (puI hi) = some (puB (ac_k tp L p hi), puI (ac_d tp L (ac_s tp L p) : Int), puI (ac_s tp L p : Int), upd told 1 (puI (ac_n tp (ac_s tp L p) (ac_d tp L (ac_s tp L p))))) := p_reads (ix := 1) hL hp (by omega) h1 h2
theorem p_reads2 {tp told : Nat → Int32} {L p : Nat} {bg : Int32} {hi : Int} (hL : L ≤ 400) (hp : p ≤ L) (h1 : -10 ≤ hi) (h2 : hi ≤ 1000) : fX11_reads tp (puI (p : Int)) (puI (L : Int)) bg told (2 : Int32) 0 (puI hi) = some (puB (ac_k tp L p hi), puI (ac_d tp L (ac_s tp L p) : Int), puI (ac_s tp L p : Int), upd told 2 (puI (ac_n tp (ac_s tp L p) (ac_d tp L (ac_s tp L p))))) := p_reads (ix := 2) hL hp (by omega) h1 h2
theorem p_reads4 {tp told : Nat → Int32} {L p : Nat} {bg : Int32} (hL : L ≤ 400) (hp : p ≤ L) : fX11_reads tp (puI (p : Int)) (puI (L : Int)) bg told (4 : Int32) 0 (3 : Int32) = some (puB (ac_k tp L p 3), puI (ac_d tp L (ac_s tp L p) : Int), puI (ac_s tp L p : Int), upd told 4 (puI (ac_n tp (ac_s tp L p) (ac_d tp L (ac_s tp L p))))) := p_reads (ix := 4) (hi := 3) hL hp (by omega) (by omega) (by omega)
theorem p_num3 {by0 tp : Nat → Int32} {L p : Nat} {fa nu : Int32} (hL : L ≤ 400) (hb : ∀ i, i < L → by0 i = tp i) (hp : p ≤ L) : fX6_readNumber by0 (puI (L : Int)) fa (puI (p : Int)) nu (3 : Int32) = some (puB (ac_k tp L p 3), puE (ac_k tp L p 3) fa (puI (ac_s tp L p : Int)), puI (ac_d tp L (ac_s tp L p) : Int), puI (ac_n tp (ac_s tp L p) (ac_d tp L (ac_s tp L p)))) := p_num (hi := 3) hL hb hp (by omega) (by omega)
theorem ac_dsb {tp : Nat → Int32} {L p : Nat} (hp : p ≤ L) : ac_s tp L p ≤ L ∧ ac_d tp L (ac_s tp L p) ≤ L ∧ ac_l tp L (ac_s tp L p) ≤ L ∧ 0 ≤ ac_n tp (ac_s tp L p) (ac_d tp L (ac_s tp L p)) := by
  have hs : ac_s tp L p ≤ L := (ac_spec hp).2.1
  exact ⟨hs, (ac_spec hs).2.1, (ac_spec hs).2.1, (ac_nb hs).1⟩
theorem p_segL {by0 tp : Nat → Int32} {L p : Nat} (hL : L ≤ 400) (hb : ∀ i, i < L → by0 i = tp i) (hp : p ≤ L) {v : xsV} {tc tm : Nat → Int32} {nu bg a0 : Int32} :
    (∃ oc om, ∃ k : Nat, k ≤ L ∧ fX6_readSeg by0 tc (puI (L : Int)) (-1) (puI (p : Int)) nu v.1 v.2.1 v.2.2.1 v.2.2.2.1 v.2.2.2.2.1 v.2.2.2.2.2 a0 = some oc ∧ fX11_readsSegment tp (puI (p : Int)) (puI (L : Int)) bg tm = some om ∧ oc.1 = 0 ∧ om.1 = 0 ∧ oc.2.2.1 = puI (k : Int) ∧ om.2.2.1 = puI (k : Int)) ∨
    (∃ (q : Nat) (tc' tm' : Nat → Int32) (nu' bg' : Int32) (x y a b t : Int), q ≤ L ∧ fX6_readSeg by0 tc (puI (L : Int)) (-1) (puI (p : Int)) nu v.1 v.2.1 v.2.2.1 v.2.2.2.1 v.2.2.2.2.1 v.2.2.2.2.2 a0 = fX6_readSeg_J68 v.1 v.2.1 v.2.2.1 v.2.2.2.1 v.2.2.2.2.1 v.2.2.2.2.2 a0 tc' (-1) (puI (q : Int)) nu' ∧ fX11_readsSegment tp (puI (p : Int)) (puI (L : Int)) bg tm = some (1, puI (q : Int), bg', tm') ∧ (puInC x ∧ puInC y ∧ puInC a ∧ puInC b ∧ 0 ≤ t ∧ t ≤ 3) ∧ (tc' 0 = puI x ∧ tc' 1 = puI y ∧ tc' 2 = puI a ∧ tc' 3 = puI b ∧ tc' 4 = puI t) ∧ (tm' 0 = puI x ∧ tm' 1 = puI y ∧ tm' 2 = puI a ∧ tm' 3 = puI b ∧ tm' 4 = puI t)) := by
  obtain ⟨rc, rm, h1, h2, h3⟩ := p_seg4 (v := v) hL hb 4 0 rfl p tc tm nu bg hp (fun j hj => absurd hj (Nat.not_lt_zero _))
  have h1' : xsWh (fun s6 => fX6_readSeg_L2 by0 (puI (L : Int)) v.1 v.2.1 v.2.2.1 v.2.2.2.1 v.2.2.2.2.1 v.2.2.2.2.2 s6.1 s6.2.1 s6.2.2.1 s6.2.2.2.1 s6.2.2.2.2) ((0 : Int32), tc, (-1 : Int32), puI (p : Int), nu) = some rc := h1
  have h2' : xsWh (fun s5 => fX11_readsSegment_L2 tp (puI (L : Int)) s5.1 s5.2.1 s5.2.2.1 s5.2.2.2) ((0 : Int32), puI (p : Int), bg, tm) = some rm := h2
  have s1 : fX6_readSeg by0 tc (puI (L : Int)) (-1) (puI (p : Int)) nu v.1 v.2.1 v.2.2.1 v.2.2.2.1 v.2.2.2.2.1 v.2.2.2.2.2 a0 = xsSm rc (fun v6 => fX6_readSeg_J32 by0 (puI (L : Int)) v.1 v.2.1 v.2.2.1 v.2.2.2.1 v.2.2.2.2.1 v.2.2.2.2.2 a0 v6.1 v6.2.1 v6.2.2.1 v6.2.2.2) := by
    unfold fX6_readSeg
    rw [xsBd_some h1']
  have s2 : fX11_readsSegment tp (puI (p : Int)) (puI (L : Int)) bg tm = xsSm rm (fun v5 => fX11_readsSegment_J23 tp (puI (L : Int)) v5.1 v5.2.1 v5.2.2) := by
    unfold fX11_readsSegment
    rw [xsBd_some h2']
  rw [s1, s2]
  rcases h3 with ⟨xc, xm, k, hk, rfl, rfl, z1, z2, z3, z4⟩ | ⟨q, tc', tm', nu', bg', hq, rfl, rfl, hz⟩
  · exact Or.inl ⟨xc, xm, k, hk, rfl, rfl, z1, z2, z3, z4⟩
  obtain ⟨x, hx, x1, x2⟩ := hz 0 (by omega)
  obtain ⟨y, hy, y1, y2⟩ := hz 1 (by omega)
  obtain ⟨a, ha, a1, a2⟩ := hz 2 (by omega)
  obtain ⟨b, hb', b1, b2⟩ := hz 3 (by omega)
  have c4 : (4 : Int32).toNatClampNeg = 4 := rfl
  have i4 : vp_in (4 : Int32) 5 := puI_in (a := 4) (by omega) (by omega) (by omega)
  obtain ⟨u1, u2, u3, u4⟩ := ac_dsb (tp := tp) hq
  show _ ∨ _
  simp only [xsSm]
  unfold fX6_readSeg_J32 fX11_readsSegment_J23
  rw [xsCk_pos i4, xsCk_pos i4, xsLt_eq, xsLt_eq, c4, p_readWord hL hb hq, p_passes hL hq, xsBd_sm, xsBd_sm]
  dsimp only
  have keep : ∀ (t0 : Nat → Int32) (z : Int32) (j : Nat), j ≠ 4 → upd t0 4 z j = t0 j := fun t0 z j hj => puUpd_ne hj
  by_cases c : ac_w tp 1 (ac_s tp L q) (ac_l tp L (ac_s tp L q))
  case neg =>
    rw [pu_bf c, pu_bf c, puE_neg c]
    exact Or.inr ⟨ac_s tp L q, _, _, _, _, x, y, a, b, 0, u1, rfl, rfl, ⟨hx, hy, ha, hb', by omega, by omega⟩, ⟨(keep _ _ 0 (by omega)).trans x1, (keep _ _ 1 (by omega)).trans y1, (keep _ _ 2 (by omega)).trans a1, (keep _ _ 3 (by omega)).trans b1, puUpd_eq _ _ _⟩, ⟨(keep _ _ 0 (by omega)).trans x2, (keep _ _ 1 (by omega)).trans y2, (keep _ _ 2 (by omega)).trans a2, (keep _ _ 3 (by omega)).trans b2, puUpd_eq _ _ _⟩⟩
  obtain ⟨w1, w2, w3, w4⟩ := ac_dsb (tp := tp) u3
  rw [pu_bt c, pu_bt c, puE_pos c, p_num3 hL hb u3, p_reads4 hL u3, xsBd_sm, xsBd_sm]
  dsimp only
  by_cases d : ac_k tp L (ac_l tp L (ac_s tp L q)) 3
  case neg =>
    rw [pu_bf d, pu_bf d, puE_neg d]
    exact Or.inl ⟨_, _, _, w1, rfl, rfl, rfl, rfl, rfl, rfl⟩
  rw [pu_bt d, pu_bt d, puE_pos d, xsCk_pos i4, xsLt_eq]
  have d2 := d.2
  exact Or.inr ⟨_, _, _, _, _, x, y, a, b, ac_n tp (ac_s tp L (ac_l tp L (ac_s tp L q))) (ac_d tp L (ac_s tp L (ac_l tp L (ac_s tp L q)))), w2, rfl, rfl, ⟨hx, hy, ha, hb', w4, d2⟩, ⟨(keep _ _ 0 (by omega)).trans ((keep _ _ 0 (by omega)).trans x1), (keep _ _ 1 (by omega)).trans ((keep _ _ 1 (by omega)).trans y1), (keep _ _ 2 (by omega)).trans ((keep _ _ 2 (by omega)).trans a1), (keep _ _ 3 (by omega)).trans ((keep _ _ 3 (by omega)).trans b1), puUpd_eq _ _ _⟩, ⟨(keep _ _ 0 (by omega)).trans ((keep _ _ 0 (by omega)).trans x2), (keep _ _ 1 (by omega)).trans ((keep _ _ 1 (by omega)).trans y2), (keep _ _ 2 (by omega)).trans ((keep _ _ 2 (by omega)).trans a2), (keep _ _ 3 (by omega)).trans ((keep _ _ 3 (by omega)).trans b2), puUpd_eq _ _ _⟩⟩
/-- the class's two numbers of a move -/
theorem p_mv2 {by0 tp : Nat → Int32} {L q : Nat} (hL : L ≤ 400) (hb : ∀ i, i < L → by0 i = tp i) (hq : q ≤ L) {v : xsV} {tc : Nat → Int32} {nu : Int32} : ∃ r, xsWh (fun s10 => fX6_readMove_L43 by0 (puI (L : Int)) v.1 v.2.1 v.2.2.1 v.2.2.2.1 s10.1 s10.2.1 s10.2.2.1 s10.2.2.2.1 s10.2.2.2.2) ((0 : Int32), tc, (-1 : Int32), puI (q : Int), nu) = some r ∧ ((¬ ac_q tp L q ∧ ∃ x, r = .inl x ∧ x.1 = 0 ∧ x.2.2.1 = puI (ac_f tp L q : Int)) ∨ (ac_q tp L q ∧ ¬ ac_q tp L (ac_e tp L q) ∧ ∃ x, r = .inl x ∧ x.1 = 0 ∧ x.2.2.1 = puI (ac_f tp L (ac_e tp L q) : Int)) ∨ (ac_q tp L q ∧ ac_q tp L (ac_e tp L q) ∧ ∃ tc' nu', r = .inr (tc', -1, puI (ac_e tp L (ac_e tp L q) : Int), nu') ∧ tc' 0 = puI (ac_z tp L q) ∧ tc' 1 = puI (ac_z tp L (ac_e tp L q)))) := by
  obtain ⟨⟨k0, k1, k2, k3⟩, ek, hk0, hk1, hk2⟩ := p_sgnK (fa := -1) (nu := nu) hL hb hq
  simp only at hk0 hk1 hk2
  have q2 := ac_eb (tp := tp) hq
  have i0 : vp_in (0 : Int32) 5 := puI_in (a := 0) (by omega) (by omega) (by omega)
  have i1 : vp_in (1 : Int32) 5 := puI_in (a := 1) (by omega) (by omega) (by omega)
  by_cases c : ac_q tp L q
  case neg =>
    rw [puB_neg c] at hk0
    subst hk0
    have e1 : fX6_readMove_L43 by0 (puI (L : Int)) v.1 v.2.1 v.2.2.1 v.2.2.2.1 0 tc (-1) (puI (q : Int)) nu = some (.inr (.inl ((0 : Int32), tc, k1, k2, k3, v.1, v.2.1, v.2.2.1, v.2.2.2.1))) := by
      unfold fX6_readMove_L43
      rw [xsBr_neg (by decide), xsBd_some ek, xsBr_pos rfl]
    exact ⟨_, xsWh_exit e1, Or.inl ⟨c, _, rfl, rfl, hk1 c⟩⟩
  rw [puB_pos c] at hk0
  subst hk0
  obtain ⟨rfl, rfl, rfl⟩ := hk2 c
  have e1 : fX6_readMove_L43 by0 (puI (L : Int)) v.1 v.2.1 v.2.2.1 v.2.2.2.1 0 tc (-1) (puI (q : Int)) nu = some (.inl ((1 : Int32), upd tc 0 (puI (ac_z tp L q)), -1, puI (ac_e tp L q : Int), puI (ac_z tp L q))) := by
    unfold fX6_readMove_L43
    rw [xsBr_neg (by decide), xsBd_some ek, xsBr_neg (show ¬ (1 : Int32) = 0 by decide), xsCk_pos i0, xsLt_eq, xsLt_eq]
    rfl
  obtain ⟨⟨j0, j1, j2, j3⟩, ej, hj0, hj1, hj2⟩ := p_sgnK (fa := -1) (nu := puI (ac_z tp L q)) hL hb q2
  simp only at hj0 hj1 hj2
  by_cases d : ac_q tp L (ac_e tp L q)
  case neg =>
    rw [puB_neg d] at hj0
    subst hj0
    have e2 : fX6_readMove_L43 by0 (puI (L : Int)) v.1 v.2.1 v.2.2.1 v.2.2.2.1 1 (upd tc 0 (puI (ac_z tp L q))) (-1) (puI (ac_e tp L q : Int)) (puI (ac_z tp L q)) = some (.inr (.inl ((0 : Int32), upd tc 0 (puI (ac_z tp L q)), j1, j2, j3, v.1, v.2.1, v.2.2.1, v.2.2.2.1))) := by
      unfold fX6_readMove_L43
      rw [xsBr_neg (by decide), xsBd_some ej, xsBr_pos rfl]
    exact ⟨_, xsWh_back e1 (xsWh_exit e2), Or.inr (Or.inl ⟨c, d, _, rfl, rfl, hj1 d⟩)⟩
  rw [puB_pos d] at hj0
  subst hj0
  obtain ⟨rfl, rfl, rfl⟩ := hj2 d
  have e2 : fX6_readMove_L43 by0 (puI (L : Int)) v.1 v.2.1 v.2.2.1 v.2.2.2.1 1 (upd tc 0 (puI (ac_z tp L q))) (-1) (puI (ac_e tp L q : Int)) (puI (ac_z tp L q)) = some (.inl ((2 : Int32), upd (upd tc 0 (puI (ac_z tp L q))) 1 (puI (ac_z tp L (ac_e tp L q))), -1, puI (ac_e tp L (ac_e tp L q) : Int), puI (ac_z tp L (ac_e tp L q)))) := by
    unfold fX6_readMove_L43
    rw [xsBr_neg (by decide), xsBd_some ej, xsBr_neg (show ¬ (1 : Int32) = 0 by decide), xsCk_pos i1, xsLt_eq, xsLt_eq]
    rfl
  have e3 : ∀ (t0 : Nat → Int32) (a b : Int32), fX6_readMove_L43 by0 (puI (L : Int)) v.1 v.2.1 v.2.2.1 v.2.2.2.1 2 t0 (-1) a b = some (.inr (.inr (t0, -1, a, b))) := by
    intro t0 a b
    unfold fX6_readMove_L43
    rw [xsBr_pos (by decide)]
  exact ⟨_, xsWh_back e1 (xsWh_back e2 (xsWh_exit (e3 _ _ _))), Or.inr (Or.inr ⟨c, d, _, _, rfl, rfl, rfl⟩)⟩
