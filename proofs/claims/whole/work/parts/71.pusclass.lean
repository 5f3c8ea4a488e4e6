/-! PURE: the class's STATUS -/
theorem pg_sc {a b c : Rat} (hc : 0 < c) (e : a = b * c) : (a < 0 ↔ b < 0) ∧ (a = 0 ↔ b = 0) := by
  have c0 : c ≠ 0 := by grind
  refine ⟨⟨fun h => ?_, fun h => ?_⟩, ⟨fun h => ?_, fun h => by rw [e, h, Rat.zero_mul]⟩⟩
  · apply Classical.byContradiction
    intro q
    have := Rat.mul_nonneg (a := b) (b := c) (by grind) (by grind)
    grind
  · have := Rat.mul_pos (a := -b) (b := c) (by grind) hc
    grind
  · rw [e] at h; exact (Rat.mul_eq_zero.mp h).resolve_right c0
theorem pg_neg {z : Int} : ((z : Rat) < 0 ↔ z < 0) := by
  rw [show (0 : Rat) = ((0 : Int) : Rat) by rfl, Rat.intCast_lt_intCast]
noncomputable def su_g (q : puS) (p : puP) : Int := puE (su_y q p < p.2) (-1) (puE (su_y q p = p.2) 0 1)
theorem su_g_bd (q : puS) (p : puP) : -1 ≤ su_g q p ∧ su_g q p ≤ 1 := by
  unfold su_g
  by_cases c : su_y q p < p.2
  · rw [puE_pos c]; omega
  · rw [puE_neg c]
    by_cases d : su_y q p = p.2
    · rw [puE_pos d]; omega
    · rw [puE_neg d]; omega
theorem su_g_iff (q : puS) (p : puP) : (su_g q p < 0 ↔ su_y q p < p.2) ∧ (su_g q p = 0 ↔ su_y q p = p.2) ∧ (0 < su_g q p ↔ p.2 < su_y q p) := by
  unfold su_g
  by_cases c : su_y q p < p.2
  · rw [puE_pos c]
    refine ⟨⟨fun _ => c, fun _ => by omega⟩, ⟨fun h => by omega, fun h => by grind⟩, ⟨fun h => by omega, fun h => by grind⟩⟩
  · rw [puE_neg c]
    by_cases d : su_y q p = p.2
    · rw [puE_pos d]
      refine ⟨⟨fun h => by omega, fun h => by grind⟩, ⟨fun _ => d, fun _ => rfl⟩, ⟨fun h => by omega, fun h => by grind⟩⟩
    · rw [puE_neg d]
      refine ⟨⟨fun h => by omega, fun h => by grind⟩, ⟨fun h => by omega, fun h => by grind⟩, ⟨fun h => by grind, fun h => by omega⟩⟩
theorem su_hg {q : puS} {p : puP} {X Y D : Int} (v : puV q) (hw : puW q ≠ 0) (hD : 0 < D) (r1 : (X : Rat) = p.1 * (D : Rat)) (r2 : (Y : Rat) = p.2 * (D : Rat)) : (puH q * (X - q.1 * D) - puW q * (Y - q.2.1 * D) < 0 ↔ su_y q p < p.2) ∧ (puH q * (X - q.1 * D) - puW q * (Y - q.2.1 * D) = 0 ↔ su_y q p = p.2) := by
  have bw := puV_w v
  have pw : 0 < (puW q : Rat) := Rat.intCast_pos.mpr (by omega)
  have pD : 0 < (D : Rat) := Rat.intCast_pos.mpr hD
  have y := su_yw (p := p) hw
  have e : ((puH q * (X - q.1 * D) - puW q * (Y - q.2.1 * D) : Int) : Rat) = (su_y q p - p.2) * ((puW q : Rat) * (D : Rat)) := by
    simp only [Rat.intCast_sub, Rat.intCast_mul, r1, r2]; grind
  have s := pg_sc (Rat.mul_pos pw pD) e
  rw [pg_neg, Rat.intCast_eq_zero_iff] at s
  rw [s.1, s.2]
  constructor <;> constructor <;> intro h <;> grind
theorem p_sideS {n : Nat} {G : puG} {lx ly rx ry : Nat → Int32} (hv : puVal n G) (hk : puKW n G lx ly rx ry) {N : Nat} {P : Nat → puP} {ex ey ed : Nat → Int64} (he : puEvs N P ex ey ed) (hN : N ≤ 324) {s k : Nat} (hs : s < n) (hkN : k < N) : fX8_sideOf ex ey ed lx ly rx ry (puI (k : Int)) (puI (s : Int)) = some (puI (su_g (G s) (P k))) := by
  have hn := hv.1
  have v := hv.2 s hs
  have bw := puV_w v
  unfold fX8_sideOf
  rw [p_width (hk s hs) v (by omega), xsBd_sm, show (0 : Int64) = puJ 0 by rfl]
  by_cases c : puW (G s) = 0
  · rw [xsBr_pos (by rw [c])]
    unfold su_g
    rw [su_y0 c, puE_neg (by grind), puE_pos rfl]; rfl
  · rw [xsBr_neg (by rw [puJ_eq (by omega) (by omega) (by omega) (by omega)]; exact c)]
    obtain ⟨X, Y, D, e, ⟨r1, r2⟩, hD, -, -, -, -, -, b1, b2⟩ := p_height hv hk he hN hs hkN
    rw [e, xsBd_sm, p_signum (by omega), xsBd_sm]
    have g := su_hg v c hD.1 r1 r2
    unfold su_g
    by_cases c1 : su_y (G s) (P k) < (P k).2
    · rw [puE_pos c1, if_pos (g.1.mpr c1)]
    · rw [puE_neg c1, if_neg (fun q => c1 (g.1.mp q))]
      by_cases c2 : su_y (G s) (P k) = (P k).2
      · rw [puE_pos c2, if_pos (g.2.mpr c2)]
      · rw [puE_neg c2, if_neg (fun q => c2 (g.2.mp q))]
theorem p_hatS {n : Nat} {G : puG} {lx ly rx ry : Nat → Int32} (hv : puVal n G) (hk : puKW n G lx ly rx ry) {ex ed : Nat → Int64} {s k : Nat} (hs : s < n) (hkN : k < 324) {X D : Int} (e1 : ex k = puJ X) (e3 : ed k = puJ D) : fX8_heightAt ex ed lx ly rx ry (puI (k : Int)) (puI (s : Int)) = some (puJ ((G s).2.1 * puW (G s) * D + (X - (G s).1 * D) * puH (G s))) := by
  have hn := hv.1
  have v := hv.2 s hs
  have w1 := p_width (hk s hs) v (by omega); have w2 := p_rise (hk s hs) v (by omega)
  obtain ⟨q1, q2, q3, q4⟩ := hk s hs
  obtain ⟨⟨b1, b2, b3, b4⟩, -, -⟩ := v
  unfold fX8_heightAt
  rw [w1, w2]
  simp (disch := omega) only [xsBd_sm, xsCk_in, xsLt_eq, puI_clN, e1, e3, q1, q2, puI_l, puJ_mul, puJ_sub, puJ_add]
theorem su_ub {q : puS} (v : puV q) {X D : Int} (hD : 0 < D ∧ D ≤ 7984008) (bX : -(999 * D) ≤ X ∧ X ≤ 999 * D) : -60000000000000 ≤ q.2.1 * puW q * D + (X - q.1 * D) * puH q ∧ q.2.1 * puW q * D + (X - q.1 * D) * puH q ≤ 60000000000000 := by
  have bw := puV_w v; have bh := puV_h v
  obtain ⟨⟨b1, b2, b3, b4⟩, -, -⟩ := v
  have k1 := pu_mb (v := q.2.1) (w := puW q) 999 1998 (by omega) (by omega) (by omega) (by omega)
  have k2 := pu_mb (v := q.2.1 * puW q) (w := D) 1996002 7984008 (by omega) (by omega) (by omega) (by omega)
  have k3 := pu_mb (v := q.1) (w := D) 999 7984008 (by omega) (by omega) (by omega) (by omega)
  have k4 := pu_mb (v := X - q.1 * D) (w := puH q) 15960000000 1998 (by omega) (by omega) (by omega) (by omega)
  omega
theorem su_ue {q : puS} {p : puP} {X D : Int} (hw : puW q ≠ 0) (r1 : (X : Rat) = p.1 * (D : Rat)) : ((q.2.1 * puW q * D + (X - q.1 * D) * puH q : Int) : Rat) = su_y q p * ((puW q : Rat) * (D : Rat)) := by
  have y := su_yw (p := p) hw
  simp only [Rat.intCast_sub, Rat.intCast_mul, Rat.intCast_add, r1]; grind
theorem su_cmp {U V wa wb D : Int} {ya yb : Rat} (ha : 0 < wa) (hb : 0 < wb) (hD : 0 < D) (eU : (U : Rat) = ya * ((wa : Rat) * (D : Rat))) (eV : (V : Rat) = yb * ((wb : Rat) * (D : Rat))) : (U * wb < V * wa ↔ ya < yb) ∧ (U * wb = V * wa ↔ ya = yb) := by
  have pa : 0 < (wa : Rat) := Rat.intCast_pos.mpr ha
  have pb : 0 < (wb : Rat) := Rat.intCast_pos.mpr hb
  have pD : 0 < (D : Rat) := Rat.intCast_pos.mpr hD
  have e : ((U * wb - V * wa : Int) : Rat) = (ya - yb) * ((wa : Rat) * (wb : Rat) * (D : Rat)) := by
    simp only [Rat.intCast_sub, Rat.intCast_mul, eU, eV]; grind
  have s := pg_sc (Rat.mul_pos (Rat.mul_pos pa pb) pD) e
  rw [pg_neg, Rat.intCast_eq_zero_iff] at s
  constructor
  · rw [show (U * wb < V * wa) ↔ (U * wb - V * wa < 0) by omega, s.1]
    constructor <;> intro h <;> grind
  · rw [show (U * wb = V * wa) ↔ (U * wb - V * wa = 0) by omega, s.2]
    constructor <;> intro h <;> grind
theorem su_sb {a b : puS} (va : puV a) (vb : puV b) : -8000000 ≤ su_s a b ∧ su_s a b ≤ 8000000 := by
  have wa := puV_w va; have ha := puV_h va
  have wb := puV_w vb; have hb := puV_h vb
  have k1 := pu_mb (v := puH a) (w := puW b) 1998 1998 (by omega) (by omega) (by omega) (by omega)
  have k2 := pu_mb (v := puH b) (w := puW a) 1998 1998 (by omega) (by omega) (by omega) (by omega)
  unfold su_s; omega
theorem p_J98 {n : Nat} {G : puG} {lx ly rx ry : Nat → Int32} (hv : puVal n G) (hk : puKW n G lx ly rx ry) {i j : Nat} (hi : i < n) (hj : j < n) {g : Int} (hg : -1 ≤ g ∧ g ≤ 1) : fX8_isAhead_J98 lx ly rx ry (puI (i : Int)) (puI (j : Int)) (puI g) = some (puB ((0 < g ∧ 0 < su_s (G i) (G j)) ∨ (¬ 0 < g ∧ su_s (G i) (G j) < 0) ∨ (su_s (G i) (G j) = 0 ∧ i < j))) := by
  have hn := hv.1
  have va := hv.2 i hi; have vb := hv.2 j hj
  have sb := su_sb va vb
  unfold fX8_isAhead_J98
  rw [p_rise (hk i hi) va (by omega), p_width (hk j hj) vb (by omega), p_rise (hk j hj) vb (by omega), p_width (hk i hi) va (by omega)]
  simp only [xsBd_sm, puJ_mul, puJ_sub, xsLt_eq]
  rw [show puH (G i) * puW (G j) - puH (G j) * puW (G i) = su_s (G i) (G j) by rfl, show (0 : Int64) = puJ 0 by rfl]
  by_cases c : su_s (G i) (G j) = 0
  · rw [xsBr_pos (by rw [c])]
    by_cases d : j ≤ i
    · rw [xsBr_pos ((puI_leN (by omega) (by omega)).mpr d), puB_neg (by omega)]
    · rw [xsBr_neg (fun q => d ((puI_leN (by omega) (by omega)).mp q)), puB_pos (by omega)]
  · rw [xsBr_neg (by rw [puJ_eq (by omega) (by omega) (by omega) (by omega)]; exact c), show (0 : Int32) = puI 0 by rfl]
    by_cases d : g ≤ 0
    · rw [xsBr_pos ((puI_le (by omega) (by omega) (by omega) (by omega)).mpr d)]
      by_cases e : 0 ≤ su_s (G i) (G j)
      · rw [xsBr_pos ((puJ_le (by omega) (by omega) (by omega) (by omega)).mpr e), puB_neg (by omega)]; rfl
      · rw [xsBr_neg (fun q => e ((puJ_le (by omega) (by omega) (by omega) (by omega)).mp q)), puB_pos (by omega)]
    · rw [xsBr_neg (fun q => d ((puI_le (by omega) (by omega) (by omega) (by omega)).mp q))]
      by_cases e : su_s (G i) (G j) ≤ 0
      · rw [xsBr_pos ((puJ_le (by omega) (by omega) (by omega) (by omega)).mpr e), puB_neg (by omega)]; rfl
      · rw [xsBr_neg (fun q => e ((puJ_le (by omega) (by omega) (by omega) (by omega)).mp q)), puB_pos (by omega)]
theorem p_aheadS {n : Nat} {G : puG} {lx ly rx ry : Nat → Int32} (hv : puVal n G) (hk : puKW n G lx ly rx ry) {N : Nat} {P : Nat → puP} {ex ey ed : Nat → Int64} (he : puEvs N P ex ey ed) (hN : N ≤ 324) {i j k : Nat} (hi : i < n) (hj : j < n) (hkN : k < N) (hai : su_al (G i) (P k)) (haj : su_al (G j) (P k)) : fX8_isAhead ex ey ed lx ly rx ry (puI (k : Int)) (puI (i : Int)) (puI (j : Int)) = some (puB (su_ah (G i) (G j) (P k) i j)) := by
  have hn := hv.1
  have va := hv.2 i hi; have vb := hv.2 j hj
  have gi := su_g_bd (G i) (P k); have gj := su_g_bd (G j) (P k)
  have ii := su_g_iff (G i) (P k); have jj := su_g_iff (G j) (P k)
  rw [puB_iff (su_ahs va vb hai haj i j)]
  unfold fX8_isAhead
  rw [p_sideS hv hk he hN hi hkN, xsBd_sm, p_sideS hv hk he hN hj hkN, xsBd_sm]
  by_cases c : su_g (G i) (P k) = su_g (G j) (P k)
  case neg =>
    rw [xsBr_neg (by rw [puI_eq (by omega) (by omega) (by omega) (by omega)]; exact c)]
    by_cases d : su_g (G j) (P k) ≤ su_g (G i) (P k)
    · rw [xsBr_pos ((puI_le (by omega) (by omega) (by omega) (by omega)).mpr d), puB_neg]
      rintro (h | ⟨h, -⟩)
      · rcases (show su_g (G j) (P k) < 0 ∨ 0 < su_g (G i) (P k) by omega) with q | q
        · have := jj.1.mp q
          rcases (show su_g (G i) (P k) = 0 ∨ 0 < su_g (G i) (P k) by omega) with z | z
          · have := ii.2.1.mp z; grind
          · have := ii.2.2.mp z; grind
        · have := ii.2.2.mp q
          rcases (show su_g (G j) (P k) < 0 ∨ su_g (G j) (P k) = 0 by omega) with z | z
          · have := jj.1.mp z; grind
          · have := jj.2.1.mp z; grind
      · apply c
        rcases (show su_g (G j) (P k) < 0 ∨ su_g (G j) (P k) = 0 ∨ 0 < su_g (G j) (P k) by omega) with z | z | z
        · have := ii.1.mpr (by rw [h]; exact jj.1.mp z); omega
        · have := ii.2.1.mpr (by rw [h]; exact jj.2.1.mp z); omega
        · have := ii.2.2.mpr (by rw [h]; exact jj.2.2.mp z); omega
    · rw [xsBr_neg (fun q => d ((puI_le (by omega) (by omega) (by omega) (by omega)).mp q)), puB_pos]
      left
      rcases (show su_g (G i) (P k) < 0 ∨ 0 < su_g (G j) (P k) by omega) with q | q
      · have := ii.1.mp q
        rcases (show su_g (G j) (P k) = 0 ∨ 0 < su_g (G j) (P k) by omega) with z | z
        · have := jj.2.1.mp z; grind
        · have := jj.2.2.mp z; grind
      · have := jj.2.2.mp q
        rcases (show su_g (G i) (P k) < 0 ∨ su_g (G i) (P k) = 0 by omega) with z | z
        · have := ii.1.mp z; grind
        · have := ii.2.1.mp z; grind
  rw [xsBr_pos (by rw [c])]
  have jl := p_J98 hv hk hi hj gi
  by_cases c0 : su_g (G i) (P k) = 0
  · rw [xsBr_pos (by rw [c0]; rfl), jl]
    have y1 := ii.2.1.mp c0
    have y2 := jj.2.1.mp (by omega)
    refine congrArg some (puB_iff ?_)
    rw [y1, y2, c0]
    constructor
    · intro h
      refine Or.inr ⟨rfl, ?_⟩
      rcases h with h | h | h
      · omega
      · exact Or.inr (Or.inl ⟨by grind, h.2⟩)
      · exact Or.inr (Or.inr h)
    · rintro (h | ⟨-, h⟩)
      · exact absurd h (by grind)
      · rcases h with h | h | h
        · exact absurd h.1 (by grind)
        · exact Or.inr (Or.inl ⟨by omega, h.2⟩)
        · exact Or.inr (Or.inr h)
  · rw [xsBr_neg (by rw [show (0 : Int32) = puI 0 by rfl, puI_eq (by omega) (by omega) (by omega) (by omega)]; exact c0)]
    have wi : puW (G i) ≠ 0 := fun q => c0 (ii.2.1.mpr (su_y0 q))
    have wj : puW (G j) ≠ 0 := fun q => c0 (by rw [c]; exact jj.2.1.mpr (su_y0 q))
    have bwi := puV_w va; have bwj := puV_w vb
    obtain ⟨X, Y, D, e1, e2, e3, hD, ⟨r1, r2⟩, bX, bY⟩ := he k hkN
    have ui := su_ub va hD bX
    have uj := su_ub vb hD bX
    have cm := su_cmp (wa := puW (G i)) (wb := puW (G j)) (by omega) (by omega) hD.1 (su_ue wi r1) (su_ue wj r1)
    rw [p_hatS hv hk hi (by omega) e1 e3, p_width (hk j hj) vb (by omega), p_hatS hv hk hj (by omega) e1 e3, p_width (hk i hi) va (by omega), jl]
    generalize (G i).2.1 * puW (G i) * D + (X - (G i).1 * D) * puH (G i) = U at *
    generalize (G j).2.1 * puW (G j) * D + (X - (G j).1 * D) * puH (G j) = V at *
    have k1 := pu_mb (v := U) (w := puW (G j)) 60000000000000 1998 (by omega) (by omega) (by omega) (by omega)
    have k2 := pu_mb (v := V) (w := puW (G i)) 60000000000000 1998 (by omega) (by omega) (by omega) (by omega)
    simp only [xsBd_sm, puJ_mul, xsLt_eq]
    by_cases d : U * puW (G j) = V * puW (G i)
    · rw [xsBr_pos (by rw [d])]
      have ye := cm.2.mp d
      refine congrArg some (puB_iff ?_)
      rw [ii.2.2, ← ye]
      constructor
      · exact fun h => Or.inr ⟨rfl, h⟩
      · rintro (h | ⟨-, h⟩)
        · exact absurd h (by grind)
        · exact h
    · rw [xsBr_neg (by rw [puJ_eq (by omega) (by omega) (by omega) (by omega)]; exact d)]
      by_cases l : V * puW (G i) ≤ U * puW (G j)
      · rw [xsBr_pos ((puJ_le (by omega) (by omega) (by omega) (by omega)).mpr l), puB_neg]
        rintro (h | ⟨h, -⟩)
        · have := cm.1.mpr h; omega
        · exact d (cm.2.mpr h)
      · rw [xsBr_neg (fun q => l ((puJ_le (by omega) (by omega) (by omega) (by omega)).mp q)), puB_pos (Or.inl (cm.1.mp (by omega)))]
theorem p_alive {n : Nat} {G : puG} {N : Nat} {P : Nat → puP} (hn : n ≤ 24) (hE : puEvt n G N P) (hN : N ≤ 324) {le re : Nat → Int32} (hle : puEnd n G N P le re) {k : Nat} (hk : k < N) {sn : Int32} (hsn : sn = puI (n : Int)) : puOk (fX1_aliveBehind le re sn (puI (k : Int))) (fun r => puSt r (fun s => s < n ∧ su_al (G s) (P k))) := by
  subst hsn
  have key : puOk (xsWh (fun s3 => fX1_aliveBehind_L4 le re (puI (n : Int)) (puI (k : Int)) s3.1 s3.2) ((0 : Int32), (0 : Int32))) (fun r => puSt r (fun s => s < n ∧ su_al (G s) (P k))) := by
    refine puFor1 n (fun m z => z.2 = puI (m : Int) ∧ puSt z.1 (fun s => s < m ∧ su_al (G s) (P k))) _ ⟨rfl, puSt_start⟩ ?_ ?_
    · rintro m ⟨b, c⟩ hm ⟨rfl, h⟩
      simp only at h
      obtain ⟨l1, l2⟩ := hle m hm
      obtain ⟨⟨a1, -⟩, z1, -⟩ := puEvt_A hE hm
      have g1 := (puEnd_le hE hm hk).1
      have g2 := puIx_lt hE.1 (p := puZ (G m)) hk
      simp only [fX1_aliveBehind_L4]
      rw [pu_go hm (by omega), xsCk_in (by omega) (by omega) (by omega), xsCk_in (by omega) (by omega) (by omega), puI_clN (by omega), l1, l2]
      by_cases c1 : k < puIx N P (puA (G m))
      · rw [xsBr_pos ((puI_ltN (by omega) (by omega)).mpr c1), xsBd_sm]
        simp only [fX1_aliveBehind_J38]
        rw [xsLt_eq, puI_s1]
        exact ⟨_, rfl, rfl, puSt_pass h (fun q => by have := g1.mpr q.1; omega)⟩
      · rw [xsBr_neg (fun q => c1 ((puI_ltN (by omega) (by omega)).mp q))]
        by_cases c2 : puIx N P (puZ (G m)) ≤ k
        · rw [xsBr_pos ((puI_leN (by omega) (by omega)).mpr c2), xsBd_sm]
          simp only [fX1_aliveBehind_J38]
          rw [xsLt_eq, puI_s1]
          exact ⟨_, rfl, rfl, puSt_pass h (fun q => by have := g2.mp q.2; omega)⟩
        · rw [xsBr_neg (fun q => c2 ((puI_leN (by omega) (by omega)).mp q)), xsLt_eq, xsBd_sm]
          simp only [fX1_aliveBehind_J38]
          rw [xsLt_eq, puI_s1]
          exact ⟨_, rfl, rfl, puSt_put (by omega) h ⟨g1.mp (by omega), g2.mpr (by omega)⟩⟩
    · rintro ⟨b, c⟩ ⟨rfl, h⟩
      simp only [fX1_aliveBehind_L4]
      rw [pu_out (by omega)]
      exact ⟨_, rfl, h⟩
  obtain ⟨r, er, hr⟩ := key
  unfold fX1_aliveBehind
  rw [xsBd_some er]
  exact puOk_some hr
/-- the place in STATUS -/
noncomputable def su_rk (n : Nat) (G : puG) (p : puP) (s : Nat) : Nat := puN (fun i => su_al (G i) p ∧ su_ah (G i) (G s) p i s) n
theorem p_rankS {n : Nat} {G : puG} {lx ly rx ry : Nat → Int32} (hv : puVal n G) (hk : puKW n G lx ly rx ry) {N : Nat} {P : Nat → puP} {ex ey ed : Nat → Int64} (he : puEvs N P ex ey ed) (hE : puEvt n G N P) (hN : N ≤ 324) {le re : Nat → Int32} (hle : puEnd n G N P le re) {s k : Nat} (hs : s < n) (hkN : k < N) (ha : su_al (G s) (P k)) {sn : Int32} (hsn : sn = puI (n : Int)) : fX8_rankOf ex ey ed le re sn lx ly rx ry (puI (n : Int)) (puI (k : Int)) (puI (s : Int)) = some (puI (su_rk n G (P k) s : Int)) := by
  have hn := hv.1
  obtain ⟨o1, eo, ho⟩ := p_alive hn hE hN hle hkN hsn
  have key : puOk (xsWh (fun s5 => fX8_rankOf_L13 ex ey ed lx ly rx ry (puI (n : Int)) (puI (k : Int)) (puI (s : Int)) o1 s5.1 s5.2) ((0 : Int32), (0 : Int32))) (fun r => r = puI (su_rk n G (P k) s : Int)) := by
    refine puFor1 n (fun m z => z.2 = puI (m : Int) ∧ z.1 = puI (puN (fun i => su_al (G i) (P k) ∧ su_ah (G i) (G s) (P k) i s) m : Int)) _ ⟨rfl, rfl⟩ ?_ ?_
    · rintro m ⟨b, c⟩ hm ⟨e1, e2⟩
      simp only at e1 e2
      subst e1; subst e2
      simp only [fX8_rankOf_L13]
      have hb : (bt o1 m = true) ↔ su_al (G m) (P k) := (ho m (by omega)).trans ⟨fun q => q.2, fun q => ⟨hm, q⟩⟩
      rw [pu_go hm (by omega), pu_has _ (by omega), puB_iff hb, xsBd_sm]
      by_cases c1 : su_al (G m) (P k)
      · rw [pu_bt c1, p_aheadS hv hk he hN hm hs hkN c1 ha, xsBd_sm]
        by_cases c2 : su_ah (G m) (G s) (P k) m s
        · rw [pu_bt c2, xsLt_eq, xsBd_sm]
          simp only [fX8_rankOf_J47]
          rw [xsLt_eq, puI_s1, puI_s1]
          exact ⟨_, rfl, rfl, by dsimp only; rw [puN_y ⟨c1, c2⟩]⟩
        · rw [pu_bf c2, xsBd_sm]
          simp only [fX8_rankOf_J47]
          rw [xsLt_eq, puI_s1]
          exact ⟨_, rfl, rfl, by dsimp only; rw [puN_n (fun q => c2 q.2)]⟩
      · rw [pu_bf c1, xsBd_sm]
        simp only [fX8_rankOf_J47]
        rw [xsLt_eq, puI_s1]
        exact ⟨_, rfl, rfl, by dsimp only; rw [puN_n (fun q => c1 q.1)]⟩
    · rintro ⟨b, c⟩ ⟨e1, e2⟩
      simp only at e1 e2
      subst e1; subst e2
      simp only [fX8_rankOf_L13]
      rw [pu_out (by omega)]
      exact ⟨_, rfl, rfl⟩
  obtain ⟨r, er, rfl⟩ := key
  unfold fX8_rankOf
  rw [eo, xsBd_sm, xsBd_some er]
  rfl
/-- the last one of STATUS -/
def su_tp (n : Nat) (G : puG) (p : puP) (t : Int32) : Prop := (t = -1 ∧ ∀ s, s < n → ¬ su_al (G s) p) ∨ ∃ s : Nat, s < n ∧ su_al (G s) p ∧ t = puI (s : Int) ∧ ∀ i, i < n → su_al (G i) p → i ≠ s → su_ah (G i) (G s) p i s
theorem p_lastS {n : Nat} {G : puG} {lx ly rx ry : Nat → Int32} (hv : puVal n G) (hk : puKW n G lx ly rx ry) {N : Nat} {P : Nat → puP} {ex ey ed : Nat → Int64} (he : puEvs N P ex ey ed) (hE : puEvt n G N P) (hN : N ≤ 324) {le re : Nat → Int32} (hle : puEnd n G N P le re) {k : Nat} (hkN : k < N) {sn : Int32} (hsn : sn = puI (n : Int)) : puOk (fX8_last ex ey ed le re sn lx ly rx ry (puI (n : Int)) (puI (k : Int))) (su_tp n G (P k)) := by
  have hn := hv.1
  obtain ⟨o1, eo, ho⟩ := p_alive hn hE hN hle hkN hsn
  have key : puOk (xsWh (fun s5 => fX8_last_L12 ex ey ed lx ly rx ry (puI (n : Int)) (puI (k : Int)) o1 s5.1 s5.2) ((-1 : Int32), (0 : Int32))) (su_tp n G (P k)) := by
    refine puFor1 n (fun m z => z.2 = puI (m : Int) ∧ su_tp m G (P k) z.1) _ ⟨rfl, Or.inl ⟨rfl, fun s hs => by omega⟩⟩ ?_ ?_
    · rintro m ⟨b, c⟩ hm ⟨rfl, h⟩
      simp only at h
      simp only [fX8_last_L12]
      have hb : (bt o1 m = true) ↔ su_al (G m) (P k) := (ho m (by omega)).trans ⟨fun q => q.2, fun q => ⟨hm, q⟩⟩
      rw [pu_go hm (by omega), pu_has _ (by omega), puB_iff hb, xsBd_sm]
      by_cases c1 : su_al (G m) (P k)
      case neg =>
        rw [pu_bf c1, xsBd_sm]
        simp only [fX8_last_J53]
        rw [xsLt_eq, puI_s1]
        refine ⟨_, rfl, rfl, ?_⟩
        rcases h with ⟨h1, h2⟩ | ⟨s, h1, h2, h3, h4⟩
        · refine Or.inl ⟨h1, fun s hs => ?_⟩
          by_cases e : s = m
          · subst e; exact c1
          · exact h2 s (by omega)
        · refine Or.inr ⟨s, by omega, h2, h3, fun i hi ha hne => ?_⟩
          by_cases e : i = m
          · subst e; exact absurd ha c1
          · exact h4 i (by omega) ha hne
      rw [pu_bt c1]
      rcases h with ⟨rfl, h2⟩ | ⟨s, h1, h2, rfl, h4⟩
      · rw [xsBr_pos rfl, xsBd_sm]
        simp only [fX8_last_J53]
        rw [xsLt_eq, puI_s1]
        refine ⟨_, rfl, rfl, Or.inr ⟨m, by omega, c1, rfl, fun i hi ha hne => ?_⟩⟩
        exact absurd ha (h2 i (by omega))
      · rw [xsBr_neg (by rw [show (-1 : Int32) = puI (-1) by rfl, puI_eq (by omega) (by omega) (by omega) (by omega)]; omega), p_aheadS hv hk he hN (by omega) hm hkN h2 c1, xsBd_sm]
        by_cases c2 : su_ah (G s) (G m) (P k) s m
        · rw [pu_bt c2, xsBd_sm]
          simp only [fX8_last_J53]
          rw [xsLt_eq, puI_s1]
          refine ⟨_, rfl, rfl, Or.inr ⟨m, by omega, c1, rfl, fun i hi ha hne => ?_⟩⟩
          by_cases e : i = s
          · subst e; exact c2
          · exact su_tr (h4 i (by omega) ha e) c2
        · rw [pu_bf c2, xsBd_sm]
          simp only [fX8_last_J53]
          rw [xsLt_eq, puI_s1]
          refine ⟨_, rfl, rfl, Or.inr ⟨s, by omega, h2, rfl, fun i hi ha hne => ?_⟩⟩
          by_cases e : i = m
          · subst e; exact (su_tot (Ne.symm hne)).resolve_left c2
          · exact h4 i (by omega) ha hne
    · rintro ⟨b, c⟩ ⟨rfl, h⟩
      simp only [fX8_last_L12]
      rw [pu_out (by omega)]
      exact ⟨_, rfl, h⟩
  obtain ⟨r, er, hr⟩ := key
  unfold fX8_last
  rw [eo, xsBd_sm, xsBd_some er]
  exact puOk_some hr
