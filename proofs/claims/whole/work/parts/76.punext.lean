/-! PURE: the nearest one below or above a whole point; those above it -/
noncomputable def nx_g (q : puS) (x y : Int) (dn : Prop) : Int := puE dn (-(puGp q x y)) (puGp q x y)
def nx_c (q : puS) (x y : Int) (dn : Prop) (a : Int) (u l : Int) : Prop := (q.1 ≤ x ∧ x ≤ q.2.2.1) ∧ 0 < nx_g q x y dn ∧ (a = -1 ∨ nx_g q x y dn * l < u * puPg q)
noncomputable def nx (G : puG) (x y : Int) (dn : Prop) : Nat → Int × Int × Int
  | 0 => (-1, 0, 1)
  | m + 1 => puE (nx_c (G m) x y dn (nx G x y dn m).1 (nx G x y dn m).2.1 (nx G x y dn m).2.2) ((m : Int), nx_g (G m) x y dn, puPg (G m)) (nx G x y dn m)
theorem puPg_bd {q : puS} (v : puV q) : 1 ≤ puPg q ∧ puPg q ≤ 1998 := by
  have bw := puV_w v
  unfold puPg
  by_cases c : puW q = 0
  · rw [puE_pos c]; omega
  · rw [puE_neg c]; omega
theorem nx_gb {q : puS} {x y : Int} (v : puV q) (hx : puInC x) (hy : puInC y) (dn : Prop) : -7984008 ≤ nx_g q x y dn ∧ nx_g q x y dn ≤ 7984008 := by
  have := puGp_bd v hx hy
  unfold nx_g
  by_cases c : dn
  · rw [puE_pos c]; omega
  · rw [puE_neg c]; omega
theorem nx_bd {n : Nat} {G : puG} (hv : puVal n G) {x y : Int} (hx : puInC x) (hy : puInC y) (dn : Prop) : ∀ m, m ≤ n → (-1 ≤ (nx G x y dn m).1 ∧ (nx G x y dn m).1 < 24) ∧ (-7984008 ≤ (nx G x y dn m).2.1 ∧ (nx G x y dn m).2.1 ≤ 7984008) ∧ (1 ≤ (nx G x y dn m).2.2 ∧ (nx G x y dn m).2.2 ≤ 1998)
  | 0, _ => ⟨⟨Int.le_refl _, by show (-1 : Int) < 24; omega⟩, ⟨by show (-7984008 : Int) ≤ 0; omega, by show (0 : Int) ≤ 7984008; omega⟩, Int.le_refl _, by show (1 : Int) ≤ 1998; omega⟩
  | m + 1, hm => by
    have ih := nx_bd hv hx hy dn m (by omega)
    have hn := hv.1
    have v := hv.2 m (by omega)
    have g := nx_gb v hx hy dn
    have p := puPg_bd v
    show (-1 ≤ (puE _ _ _ : Int × Int × Int).1 ∧ (puE _ _ _ : Int × Int × Int).1 < 24) ∧ (-7984008 ≤ (puE _ _ _ : Int × Int × Int).2.1 ∧ (puE _ _ _ : Int × Int × Int).2.1 ≤ 7984008) ∧ (1 ≤ (puE _ _ _ : Int × Int × Int).2.2 ∧ (puE _ _ _ : Int × Int × Int).2.2 ≤ 1998)
    by_cases c : nx_c (G m) x y dn (nx G x y dn m).1 (nx G x y dn m).2.1 (nx G x y dn m).2.2
    · rw [puE_pos c]; refine ⟨⟨?_, ?_⟩, g, p⟩ <;> dsimp only <;> omega
    · rw [puE_neg c]; exact ih
theorem nx_y {G : puG} {x y : Int} {dn : Prop} {m : Nat} (c : nx_c (G m) x y dn (nx G x y dn m).1 (nx G x y dn m).2.1 (nx G x y dn m).2.2) : nx G x y dn (m + 1) = ((m : Int), nx_g (G m) x y dn, puPg (G m)) := puE_pos c
theorem nx_n {G : puG} {x y : Int} {dn : Prop} {m : Nat} (c : ¬ nx_c (G m) x y dn (nx G x y dn m).1 (nx G x y dn m).2.1 (nx G x y dn m).2.2) : nx G x y dn (m + 1) = nx G x y dn m := puE_neg c
theorem p_next17 {n : Nat} {G : puG} {lx ly rx ry : Nat → Int32} (hv : puVal n G) (hk : puKW n G lx ly rx ry) {x y : Int} (hx : puInC x) (hy : puInC y) (up : Int32) : xsWh (fun s8 => fX10_next_L17 lx ly rx ry (puI (n : Int)) (puI x) (puI y) up s8.1 s8.2.1 s8.2.2.1 s8.2.2.2) ((-1 : Int32), (0 : Int64), (1 : Int64), (0 : Int32)) = some (puI (nx G x y (up = 0) n).1) := by
  have hn := hv.1
  have key : puOk (xsWh (fun s8 => fX10_next_L17 lx ly rx ry (puI (n : Int)) (puI x) (puI y) up s8.1 s8.2.1 s8.2.2.1 s8.2.2.2) ((-1 : Int32), (0 : Int64), (1 : Int64), (0 : Int32))) (fun r => r = puI (nx G x y (up = 0) n).1) := by
    refine puFor1 n (fun m z => z.2.2.2 = puI (m : Int) ∧ z.1 = puI (nx G x y (up = 0) m).1 ∧ z.2.1 = puJ (nx G x y (up = 0) m).2.1 ∧ z.2.2.1 = puJ (nx G x y (up = 0) m).2.2) _ ⟨rfl, rfl, rfl, rfl⟩ ?_ ?_
    · rintro m ⟨y4, y5, y6, y7⟩ hm ⟨q1, q2, q3, q4⟩
      simp only at q1 q2 q3 q4
      subst q1; subst q2; subst q3; subst q4
      have v := hv.2 m hm
      have gb := nx_gb v hx hy (up = 0)
      have gg := puGp_bd v hx hy
      have pb := puPg_bd v
      obtain ⟨⟨a1, a2⟩, ⟨u1, u2⟩, l1, l2⟩ := nx_bd hv hx hy (up = 0) m (by omega)
      simp only [fX10_next_L17]
      rw [pu_go hm (by omega), p_spansX (hk m hm) v (by omega) hx, xsBd_sm]
      have fin : ∀ z : Int × Int × Int, nx G x y (up = 0) (m + 1) = z → ∃ s', fX10_next_J127 (puI (m : Int)) (puI z.1) (puJ z.2.1) (puJ z.2.2) = some (.inl s') ∧ s'.2.2.2 = puI ((m + 1 : Nat) : Int) ∧ s'.1 = puI (nx G x y (up = 0) (m + 1)).1 ∧ s'.2.1 = puJ (nx G x y (up = 0) (m + 1)).2.1 ∧ s'.2.2.1 = puJ (nx G x y (up = 0) (m + 1)).2.2 := by
        intro z hz
        simp only [fX10_next_J127]
        rw [xsLt_eq, puI_s1, hz]
        exact ⟨_, rfl, rfl, rfl, rfl, rfl⟩
      by_cases c1 : (G m).1 ≤ x ∧ x ≤ (G m).2.2.1
      case neg =>
        rw [pu_bf c1, xsBd_sm]
        exact fin _ (nx_n (fun q => c1 q.1))
      have eg : xsBr (up = 0) (xsBd (fX7_gapAbove lx ly rx ry (puI (m : Int)) (puI x) (puI y)) (fun o28 => some (-o28))) (xsBd (fX7_gapAbove lx ly rx ry (puI (m : Int)) (puI x) (puI y)) (fun o30 => some o30)) = some (puJ (nx_g (G m) x y (up = 0))) := by
        rw [p_gap (hk m hm) v (by omega) hx hy, xsBd_sm, xsBd_sm, puJ_neg, xsBr_some]
        unfold nx_g
        exact congrArg some (puE_fn puJ)
      rw [pu_bt c1, eg, xsBd_sm]
      unfold fX10_next_J75
      rw [p_parts (hk m hm) v (by omega), xsBd_sm, show (0 : Int64) = puJ 0 by rfl, show (-1 : Int32) = puI (-1) by rfl]
      by_cases c2 : nx_g (G m) x y (up = 0) ≤ 0
      · rw [xsBr_pos ((puJ_le (by omega) (by omega) (by omega) (by omega)).mpr c2), xsBd_sm]
        exact fin _ (nx_n (fun q => by have := q.2.1; omega))
      rw [xsBr_neg (fun q => c2 ((puJ_le (by omega) (by omega) (by omega) (by omega)).mp q))]
      by_cases c3 : (nx G x y (up = 0) m).1 = -1
      · rw [xsBr_pos (by rw [c3]), xsBd_sm]
        exact fin ((m : Int), nx_g (G m) x y (up = 0), puPg (G m)) (nx_y ⟨c1, by omega, Or.inl c3⟩)
      rw [xsBr_neg (by rw [puI_eq (by omega) (by omega) (by omega) (by omega)]; exact c3), puJ_mul, puJ_mul]
      have k1 := pu_mb (v := (nx G x y (up = 0) m).2.1) (w := puPg (G m)) 7984008 1998 (by omega) (by omega) (by omega) (by omega)
      have k2 := pu_mb (v := nx_g (G m) x y (up = 0)) (w := (nx G x y (up = 0) m).2.2) 7984008 1998 (by omega) (by omega) (by omega) (by omega)
      by_cases c4 : (nx G x y (up = 0) m).2.1 * puPg (G m) ≤ nx_g (G m) x y (up = 0) * (nx G x y (up = 0) m).2.2
      · rw [xsBr_pos ((puJ_le (by omega) (by omega) (by omega) (by omega)).mpr c4), xsBd_sm]
        refine fin _ (nx_n (fun q => ?_))
        rcases q.2.2 with h | h
        · exact c3 h
        · omega
      · rw [xsBr_neg (fun q => c4 ((puJ_le (by omega) (by omega) (by omega) (by omega)).mp q)), xsBd_sm]
        exact fin ((m : Int), nx_g (G m) x y (up = 0), puPg (G m)) (nx_y ⟨c1, by omega, Or.inr (by omega)⟩)
    · rintro ⟨y4, y5, y6, y7⟩ ⟨q1, q2, q3, q4⟩
      simp only at q1 q2
      subst q1; subst q2
      simp only [fX10_next_L17]
      rw [pu_out (by omega)]
      exact ⟨_, rfl, rfl⟩
  obtain ⟨r, er, rfl⟩ := key
  exact er
noncomputable def nx_h (q : puS) (x : Int) (dn : Prop) : Int := puE (puW q = 0) (puE dn q.2.2.2.1 q.2.1) (q.2.1 * puW q + puH q * (x - q.1))
theorem p_hasH {n : Nat} {G : puG} {w : Nat → Int32} (hv : puVal n G) (hw : puMW n G w) {s : Nat} (hs : s < n) {x : Int} (hx : puInC x) {hu hl : Int64} (up : Int32) : fX11_hasHeight w hu hl (puI (s : Int)) (puI x) up = some (puE ((G s).1 ≤ x ∧ x ≤ (G s).2.2.1) ((1 : Int32), puJ (nx_h (G s) x (up = 0)), puJ (puPg (G s))) ((0 : Int32), hu, hl)) := by
  have hn := hv.1
  have v := hv.2 s hs
  have bw := puV_w v
  have bh := puV_h v
  obtain ⟨h1, h2, h3, h4, -⟩ := hw.2 s hs
  obtain ⟨⟨b1, b2, b3, b4⟩, -, -⟩ := id v
  unfold puInC at hx
  unfold fX11_hasHeight
  rw [p_of0 (by omega), p_of2 (by omega)]
  simp (disch := omega) only [xsBd_sm, h1, h3, puI_sub, puI_l, xsLt_eq]
  rw [p_in (by omega) (by omega) (by omega), xsBd_sm, show (G s).2.2.1 - (G s).1 = puW (G s) by rfl]
  by_cases c : (G s).1 ≤ x ∧ x ≤ (G s).2.2.1
  case neg => rw [pu_bf c, puE_neg c]
  rw [pu_bt c, puE_pos c, show (0 : Int64) = puJ 0 by rfl]
  by_cases d : puW (G s) = 0
  · rw [xsBr_pos (by rw [d]), xsBd_sm]
    unfold fX11_hasHeight_J54 nx_h puPg
    rw [show (0 : Int64) = puJ 0 by rfl, xsBr_pos (by rw [d]), puE_pos d, puE_pos d]
    by_cases e : up = 0
    · rw [xsBr_pos e, puE_pos e, xsBd_sm]
      unfold fX11_hasHeight_J76
      rw [p_of3 (by omega), xsBd_sm, h4, puI_l (by omega) (by omega), xsBd_sm]
      rfl
    · rw [xsBr_neg e, puE_neg e, xsBd_sm]
      unfold fX11_hasHeight_J76
      rw [p_of1 (by omega), xsBd_sm, h2, puI_l (by omega) (by omega), xsBd_sm]
      rfl
  · have dn : ¬ puJ (puW (G s)) = puJ 0 := by rw [puJ_eq (by omega) (by omega) (by omega) (by omega)]; exact d
    rw [xsBr_neg dn, xsBd_sm]
    unfold fX11_hasHeight_J54 nx_h puPg
    rw [show (0 : Int64) = puJ 0 by rfl, xsBr_neg dn, puE_neg d, puE_neg d, p_of0 (by omega), p_of1 (by omega), p_of3 (by omega)]
    simp (disch := omega) only [xsBd_sm, h1, h2, h4, puI_sub, puI_l, puJ_mul, puJ_add]
    rfl
/-- what the two call the way to it -/
theorem nx_hg {q : puS} (v : puV q) {x y : Int} (c : q.1 ≤ x ∧ x ≤ q.2.2.1) (hp : ¬ puOn q (puC (x, y))) (dn : Prop) : (0 < nx_g q x y dn ↔ 0 < puE dn (y * puPg q - nx_h q x dn) (nx_h q x dn - y * puPg q)) ∧ (0 < nx_g q x y dn → nx_g q x y dn = puE dn (y * puPg q - nx_h q x dn) (nx_h q x dn - y * puPg q)) := by
  have nz : puGp q x y ≠ 0 := fun e => hp ((puHas_iff v).mp ⟨c, e⟩)
  have vd := v.2.2
  unfold nx_g nx_h puPg puGp at *
  by_cases d : puW q = 0
  · simp only [puE_pos d] at *
    have hh : 0 ≤ puH q := by rcases vd with h | h <;> omega
    have ry : q.2.2.2.1 = q.2.1 + puH q := by unfold puH; omega
    simp only [Int.mul_one]
    by_cases e : q.2.1 ≤ y
    · simp only [puE_pos e] at *
      by_cases f : y ≤ q.2.2.2.1
      · rw [puE_pos f] at nz; exact absurd rfl nz
      · simp only [puE_neg f] at *
        by_cases g : dn
        · simp only [puE_pos g]; exact ⟨⟨fun h => by omega, fun h => by omega⟩, fun h => by omega⟩
        · simp only [puE_neg g]; exact ⟨⟨fun h => by omega, fun h => by omega⟩, fun h => by omega⟩
    · simp only [puE_neg e] at *
      by_cases g : dn
      · simp only [puE_pos g]; exact ⟨⟨fun h => by omega, fun h => by omega⟩, fun h => by omega⟩
      · rw [puE_neg g, puE_neg g, puE_neg g]; exact ⟨Iff.rfl, fun _ => rfl⟩
  · simp only [puE_neg d] at *
    have e : (q.2.1 - y) * puW q + (x - q.1) * puH q = q.2.1 * puW q + puH q * (x - q.1) - y * puW q := by rw [Int.sub_mul, Int.mul_comm (puH q)]; omega
    rw [e]
    by_cases g : dn
    · simp only [puE_pos g]; exact ⟨⟨fun h => by omega, fun h => by omega⟩, fun h => by omega⟩
    · rw [puE_neg g, puE_neg g]; exact ⟨Iff.rfl, fun _ => rfl⟩
theorem p_mnext36 {n : Nat} {G : puG} {w : Nat → Int32} (hv : puVal n G) (hw : puMW n G w) {x y : Int} (hx : puInC x) (hy : puInC y) (up : Int32) {o3 : _} (ho : puSt o3.1 (fun s => s < n ∧ puOn (G s) (puC (x, y)))) {hu hl : Int64} : puOk (xsWh (fun s11 => fX11_next_L36 w (puI x) (puI y) up o3 s11.1 s11.2.1 s11.2.2.1 s11.2.2.2.1 s11.2.2.2.2.1 s11.2.2.2.2.2) ((-1 : Int32), (0 : Int64), (1 : Int64), (0 : Int32), hu, hl)) (fun r => r.1 = puI (nx G x y (up = 0) n).1) := by
  have hn := hv.1
  refine puFor1 n (fun m z => z.2.2.2.1 = puI (m : Int) ∧ z.1 = puI (nx G x y (up = 0) m).1 ∧ z.2.1 = puJ (nx G x y (up = 0) m).2.1 ∧ z.2.2.1 = puJ (nx G x y (up = 0) m).2.2) _ ⟨rfl, rfl, rfl, rfl⟩ ?_ ?_
  · rintro m ⟨y4, y5, y6, y7, hu, hl⟩ hm ⟨q1, q2, q3, q4⟩
    simp only at q1 q2 q3 q4
    subst q1; subst q2; subst q3; subst q4
    have v := hv.2 m hm
    have gb := nx_gb v hx hy (up = 0)
    have pb := puPg_bd v
    obtain ⟨⟨a1, a2⟩, ⟨u1, u2⟩, l1, l2⟩ := nx_bd hv hx hy (up = 0) m (by omega)
    have bw := puV_w v; have bh := puV_h v
    have fin : ∀ (z : Int × Int × Int) (hu hl : Int64), nx G x y (up = 0) (m + 1) = z → ∃ s', fX11_next_J148 (puI (m : Int)) (puI z.1) (puJ z.2.1) (puJ z.2.2) hu hl = some (.inl s') ∧ s'.2.2.2.1 = puI ((m + 1 : Nat) : Int) ∧ s'.1 = puI (nx G x y (up = 0) (m + 1)).1 ∧ s'.2.1 = puJ (nx G x y (up = 0) (m + 1)).2.1 ∧ s'.2.2.1 = puJ (nx G x y (up = 0) (m + 1)).2.2 := by
      intro z hu hl hz
      simp only [fX11_next_J148]
      rw [xsLt_eq, puI_s1, hz]
      exact ⟨_, rfl, rfl, rfl, rfl, rfl⟩
    simp only [fX11_next_L36]
    rw [p_many hw, xsBd_sm, pu_go hm (by omega), pu_holds _ (by omega), puB_iff ((ho m (by omega)).trans ⟨fun q => q.2, fun q => ⟨hm, q⟩⟩), xsBd_sm]
    by_cases c0 : puOn (G m) (puC (x, y))
    · rw [pu_bt c0, xsBd_sm]
      refine fin _ _ _ (nx_n (fun q => ?_))
      have z := ((puHas_iff v).mpr c0).2
      have g := q.2.1
      unfold nx_g at g
      rw [z] at g
      by_cases d : up = 0
      · rw [puE_pos d] at g; omega
      · rw [puE_neg d] at g; omega
    rw [pu_bf c0, p_hasH hv hw hm hx up, xsBd_sm]
    by_cases c1 : (G m).1 ≤ x ∧ x ≤ (G m).2.2.1
    case neg =>
      rw [puE_neg c1, xsBr_pos rfl, xsBd_sm]
      exact fin _ _ _ (nx_n (fun q => c1 q.1))
    obtain ⟨h1, h2⟩ := nx_hg v c1 c0 (up = 0)
    obtain ⟨⟨b1, b2, b3, b4⟩, -, -⟩ := id v
    unfold puInC at hx hy
    have hb : -8000000 ≤ nx_h (G m) x (up = 0) ∧ nx_h (G m) x (up = 0) ≤ 8000000 := by
      have k1 := pu_mb (v := (G m).2.1) (w := puW (G m)) 999 1998 (by omega) (by omega) (by omega) (by omega)
      have k2 := pu_mb (v := puH (G m)) (w := x - (G m).1) 1998 1998 (by omega) (by omega) (by omega) (by omega)
      unfold nx_h
      by_cases d : puW (G m) = 0
      · rw [puE_pos d]
        by_cases e : up = 0
        · rw [puE_pos e]; omega
        · rw [puE_neg e]; omega
      · rw [puE_neg d]; omega
    have k0 := pu_mb (v := y) (w := puPg (G m)) 999 1998 (by omega) (by omega) (by omega) (by omega)
    have eap : xsBr (up = 0) (some (puJ y * puJ (puPg (G m)) - puJ (nx_h (G m) x (up = 0)))) (some (puJ (nx_h (G m) x (up = 0)) - puJ y * puJ (puPg (G m)))) = some (puJ (puE (up = 0) (y * puPg (G m) - nx_h (G m) x (up = 0)) (nx_h (G m) x (up = 0) - y * puPg (G m)))) := by
      rw [puJ_mul, puJ_sub, puJ_sub, xsBr_some]
      exact congrArg some (puE_fn puJ)
    have ab : -16000000 ≤ puE (up = 0) (y * puPg (G m) - nx_h (G m) x (up = 0)) (nx_h (G m) x (up = 0) - y * puPg (G m)) ∧ puE (up = 0) (y * puPg (G m) - nx_h (G m) x (up = 0)) (nx_h (G m) x (up = 0) - y * puPg (G m)) ≤ 16000000 := by
      by_cases e : up = 0
      · rw [puE_pos e]; omega
      · rw [puE_neg e]; omega
    rw [puE_pos c1, puI_l (by omega) (by omega)]
    simp only
    rw [xsBr_neg (by decide)]
    rw [eap, xsBd_sm]
    generalize puE (up = 0) (y * puPg (G m) - nx_h (G m) x (up = 0)) (nx_h (G m) x (up = 0) - y * puPg (G m)) = ap at *
    unfold fX11_next_J100 fX11_next_J134
    simp only
    rw [show (0 : Int64) = puJ 0 by rfl, show (-1 : Int32) = puI (-1) by rfl]
    by_cases c2 : ap ≤ 0
    · rw [xsBr_pos ((puJ_le (by omega) (by omega) (by omega) (by omega)).mpr c2), xsBd_sm]
      exact fin _ _ _ (nx_n (fun q => by have := h1.mp q.2.1; omega))
    have ge := h2 (h1.mpr (by omega))
    rw [xsBr_neg (fun q => c2 ((puJ_le (by omega) (by omega) (by omega) (by omega)).mp q))]
    by_cases c3 : (nx G x y (up = 0) m).1 = -1
    · rw [xsBr_pos (by rw [c3]), xsBd_sm, ← ge]
      exact fin ((m : Int), nx_g (G m) x y (up = 0), puPg (G m)) _ _ (nx_y ⟨c1, by omega, Or.inl c3⟩)
    rw [xsBr_neg (by rw [puI_eq (by omega) (by omega) (by omega) (by omega)]; exact c3), puJ_mul, puJ_mul]
    have k1 := pu_mb (v := (nx G x y (up = 0) m).2.1) (w := puPg (G m)) 7984008 1998 (by omega) (by omega) (by omega) (by omega)
    have k2 := pu_mb (v := ap) (w := (nx G x y (up = 0) m).2.2) 16000000 1998 (by omega) (by omega) (by omega) (by omega)
    by_cases c4 : ap * (nx G x y (up = 0) m).2.2 < (nx G x y (up = 0) m).2.1 * puPg (G m)
    · rw [xsBr_pos ((puJ_lt (by omega) (by omega) (by omega) (by omega)).mpr c4), xsBd_sm, ← ge]
      exact fin ((m : Int), nx_g (G m) x y (up = 0), puPg (G m)) _ _ (nx_y ⟨c1, by omega, Or.inr (by rw [ge]; exact c4)⟩)
    · rw [xsBr_neg (fun q => c4 ((puJ_lt (by omega) (by omega) (by omega) (by omega)).mp q)), xsBd_sm]
      refine fin _ _ _ (nx_n (fun q => ?_))
      rcases q.2.2 with h | h
      · exact c3 h
      · rw [ge] at h; exact c4 h
  · rintro ⟨y4, y5, y6, y7, hu, hl⟩ ⟨q1, q2, q3, q4⟩
    simp only at q1 q2
    subst q1; subst q2
    simp only [fX11_next_L36]
    rw [p_many hw, xsBd_sm, pu_out (by omega)]
    exact ⟨_, rfl, rfl⟩
theorem q_next : pc_next puRl := by
  intro kIsKept kIsStale hiLatest hiSize scLength scFault scAt scNumber piSegmentsNow enKind enFromX enFromY enToX enToY tiMeetingPairs tiAlongPairs tiSize evSize evCrossings evSegmentsNow grEdges grQueued huSize huBestX huBestY scBytes scTold tiTouching tiLyingAlong evBundle evCrossingOf evEventOf evLeftEvent evRightEvent grDegree grFar grQueue huX huY enX enY enLower evX evY evLower S mThrown mRemembered mHasImage mIsLaid mEvents mCrossings mEdges mTaped mPoint mEnd mBegin mFaultAt mActs mWorld mImage mDraft mEarlier mOne mTwo mShare mCrossingOf mBundle mEventOf mDegree mFrom mTo mMet mTape mFive mTold mFar mViews mHullX mHullY mEndX mEndY mMeets mMeetsOf mX mY mD mHeightUp mHeightLow mEventX mEventY mEventD mUpper mLower hR a0 a1 a2 hB
  obtain ⟨n, G, rw, ri, rh, rt, rk, rm⟩ := hR
  obtain ⟨x, rfl, x1, x2⟩ := puI_ex a0
  obtain ⟨y, rfl, y1, y2⟩ := puI_ex a1
  obtain ⟨w1, w2, w3⟩ := id rw
  unfold fX10_next fX11_next
  rw [w2.2.2, p_checkPoint x1 x2 y1 y2, p_noPlace x1 x2 y1 y2, xsBd_sm, xsBd_sm]
  by_cases c : puInC x ∧ puInC y
  · have er := p_next17 w1 w2.1 c.1 c.2 a2
    obtain ⟨r2, er2, hr2⟩ := p_whoHas w1 w3 c.1 c.2 (one := mOne)
    obtain ⟨r3, er3, hr3⟩ := p_mnext36 w1 w3 c.1 c.2 a2 hr2 (hu := mHeightUp) (hl := mHeightLow)
    rw [puCk_pos c, puB_neg (fun q => q c), puE_neg (fun q => q c)]
    simp only [xsTh]
    rw [er, xsBd_sm, xsBr_T, xsBd_some er2, xsBd_some er3]
    simp only [fX10_next_J133, fX11_next_J154]
    exact ⟨_, _, rfl, rfl, Or.inl ⟨_, rfl, hr3.symm, rfl, n, G, rw, ri, rh, rt, rk, rm⟩⟩
  · rw [puCk_neg c, puB_pos c, puE_pos c]
    simp only [xsTh]
    rw [xsBr_neg (by decide)]
    exact ⟨_, _, rfl, rfl, Or.inr ⟨_, _, rfl, rfl, rfl, n, G, rw, ri, rh, rt, rk, rm⟩⟩

def nx_o (G : puG) (x y : Int) (s : Nat) : Prop := ((G s).1 ≤ x ∧ x < (G s).2.2.1) ∧ 0 < puGp (G s) x y
theorem p_over10 {n : Nat} {G : puG} {lx ly rx ry : Nat → Int32} (hv : puVal n G) (hk : puKW n G lx ly rx ry) {x y : Int} (hx : puInC x) (hy : puInC y) : xsWh (fun s6 => fX10_over_L10 lx ly rx ry (puI (n : Int)) (puI x) (puI y) s6.1 s6.2) ((0 : Int32), (0 : Int32)) = some (puI (puN (nx_o G x y) n : Int)) := by
  have hn := hv.1
  have key : puOk (xsWh (fun s6 => fX10_over_L10 lx ly rx ry (puI (n : Int)) (puI x) (puI y) s6.1 s6.2) ((0 : Int32), (0 : Int32))) (fun r => r = puI (puN (nx_o G x y) n : Int)) := by
    refine puFor1 n (fun m z => z.2 = puI (m : Int) ∧ z.1 = puI (puN (nx_o G x y) m : Int)) _ ⟨rfl, rfl⟩ ?_ ?_
    · rintro m ⟨y4, y5⟩ hm ⟨q1, q2⟩
      simp only at q1 q2
      subst q1; subst q2
      have v := hv.2 m hm
      have gg := puGp_bd v hx hy
      obtain ⟨h1, h2, h3, h4⟩ := id (hk m hm)
      obtain ⟨⟨b1, b2, b3, b4⟩, -, -⟩ := id v
      unfold puInC at hx hy
      have es : xsBr (puI x < lx (puI (m : Int)).toNatClampNeg) (some (0 : Int32)) (xsCk (vp_in (puI (m : Int)) 24) (xsBr (rx (puI (m : Int)).toNatClampNeg ≤ puI x) (some (0 : Int32)) (some (1 : Int32)))) = some (puB ((G m).1 ≤ x ∧ x < (G m).2.2.1)) := by
        rw [xsCk_in (by omega) (by omega) (by omega), puI_clN (by omega), h1, h3]
        by_cases a : x < (G m).1
        · rw [xsBr_pos ((puI_lt (by omega) (by omega) (by omega) (by omega)).mpr a), puB_neg (by omega)]
        · rw [xsBr_neg (fun q => a ((puI_lt (by omega) (by omega) (by omega) (by omega)).mp q))]
          by_cases b : (G m).2.2.1 ≤ x
          · rw [xsBr_pos ((puI_le (by omega) (by omega) (by omega) (by omega)).mpr b), puB_neg (by omega)]
          · rw [xsBr_neg (fun q => b ((puI_le (by omega) (by omega) (by omega) (by omega)).mp q)), puB_pos (by omega)]
      simp only [fX10_over_L10]
      rw [pu_go hm (by omega), xsCk_in (by omega) (by omega) (by omega), es, xsBd_sm]
      unfold fX10_over_J55
      by_cases c : (G m).1 ≤ x ∧ x < (G m).2.2.1
      case neg =>
        rw [pu_bf c, xsBd_sm]
        simp only [fX10_over_J81]
        rw [xsLt_eq, puI_s1]
        exact ⟨_, rfl, rfl, by dsimp only; rw [puN_n (fun q => c q.1)]⟩
      rw [pu_bt c, p_gap (hk m hm) v (by omega) hx hy, xsBd_sm, show (0 : Int64) = puJ 0 by rfl]
      by_cases d : puGp (G m) x y ≤ 0
      · rw [xsBr_pos ((puJ_le (by omega) (by omega) (by omega) (by omega)).mpr d), xsBd_sm]
        simp only [fX10_over_J81]
        rw [xsLt_eq, puI_s1]
        exact ⟨_, rfl, rfl, by dsimp only; rw [puN_n (fun q => by have := q.2; omega)]⟩
      · rw [xsBr_neg (fun q => d ((puJ_le (by omega) (by omega) (by omega) (by omega)).mp q)), xsLt_eq, xsBd_sm]
        simp only [fX10_over_J81]
        rw [xsLt_eq, puI_s1, puI_s1]
        exact ⟨_, rfl, rfl, by dsimp only; rw [puN_y ⟨c, by omega⟩]⟩
    · rintro ⟨y4, y5⟩ ⟨q1, q2⟩
      simp only at q1 q2
      subst q1; subst q2
      simp only [fX10_over_L10]
      rw [pu_out (by omega)]
      exact ⟨_, rfl, rfl⟩
  obtain ⟨r, er, rfl⟩ := key
  exact er
theorem p_mover21 {n : Nat} {G : puG} {w : Nat → Int32} (hv : puVal n G) (hw : puMW n G w) {x y : Int} (hx : puInC x) (hy : puInC y) {hu hl : Int64} : puOk (xsWh (fun s7 => fX11_over_L21 w (puI x) (puI y) s7.1 s7.2.1 s7.2.2.1 s7.2.2.2) ((0 : Int32), (0 : Int32), hu, hl)) (fun r => r.1 = puI (puN (nx_o G x y) n : Int)) := by
  have hn := hv.1
  refine puFor1 n (fun m z => z.2.1 = puI (m : Int) ∧ z.1 = puI (puN (nx_o G x y) m : Int)) _ ⟨rfl, rfl⟩ ?_ ?_
  · rintro m ⟨y4, y5, hu, hl⟩ hm ⟨q1, q2⟩
    simp only at q1 q2
    subst q1; subst q2
    have v := hv.2 m hm
    have bw := puV_w v; have bh := puV_h v
    have pb := puPg_bd v
    obtain ⟨h1, h2, h3, h4, -⟩ := hw.2 m hm
    obtain ⟨⟨b1, b2, b3, b4⟩, -, -⟩ := id v
    have hH := p_hasH hv hw hm hx (hu := hu) (hl := hl) 1
    have hx' := hx
    unfold puInC at hx hy
    have no : ∀ hu hl : Int64, ¬ nx_o G x y m → ∃ s', fX11_over_J82 (puI (puN (nx_o G x y) m : Int)) (puI (m : Int)) (0 : Int32) hu hl = some (.inl s') ∧ s'.2.1 = puI ((m + 1 : Nat) : Int) ∧ s'.1 = puI (puN (nx_o G x y) (m + 1) : Int) := by
      intro hu hl c
      simp only [fX11_over_J82]
      rw [xsLt_eq, xsLt_eq, puI_s1, puI_a0]
      exact ⟨_, rfl, rfl, by dsimp only; rw [puN_n c]⟩
    simp only [fX11_over_L21]
    rw [p_many hw, xsBd_sm, pu_go hm (by omega), p_isUp hv hw hm, xsBd_sm]
    by_cases c : puW (G m) = 0
    · rw [pu_bt c, xsBd_sm]
      refine no _ _ (fun q => ?_)
      have := q.1
      unfold puW at c; omega
    rw [pu_bf c, p_of2 (by omega), xsBd_sm, h3]
    by_cases d : (G m).2.2.1 ≤ x
    · rw [xsBr_pos ((puI_le (by omega) (by omega) (by omega) (by omega)).mpr d), xsBd_sm]
      exact no _ _ (fun q => by have := q.1; omega)
    rw [xsBr_neg (fun q => d ((puI_le (by omega) (by omega) (by omega) (by omega)).mp q)), hH, xsBd_sm]
    by_cases e : (G m).1 ≤ x ∧ x ≤ (G m).2.2.1
    case neg =>
      rw [puE_neg e, xsBr_pos rfl, xsBd_sm]
      exact no _ _ (fun q => by have := q.1; omega)
    have eh : nx_h (G m) x ((1 : Int32) = 0) = (G m).2.1 * puW (G m) + puH (G m) * (x - (G m).1) := puE_neg c
    have ep : puPg (G m) = puW (G m) := puE_neg c
    have eg : puGp (G m) x y = ((G m).2.1 * puW (G m) + puH (G m) * (x - (G m).1)) - y * puW (G m) := by
      unfold puGp
      rw [puE_neg c, Int.sub_mul, Int.mul_comm (puH (G m))]; omega
    have k1 := pu_mb (v := (G m).2.1) (w := puW (G m)) 999 1998 (by omega) (by omega) (by omega) (by omega)
    have k2 := pu_mb (v := puH (G m)) (w := x - (G m).1) 1998 1998 (by omega) (by omega) (by omega) (by omega)
    have k3 := pu_mb (v := y) (w := puW (G m)) 999 1998 (by omega) (by omega) (by omega) (by omega)
    rw [puE_pos e, puI_l (by omega) (by omega)]
    simp only
    rw [xsBr_neg (by decide), eh, ep, puJ_mul]
    by_cases f : (G m).2.1 * puW (G m) + puH (G m) * (x - (G m).1) ≤ y * puW (G m)
    · rw [xsBr_pos ((puJ_le (by omega) (by omega) (by omega) (by omega)).mpr f), xsBd_sm]
      exact no _ _ (fun q => by have := q.2; omega)
    · rw [xsBr_neg (fun q => f ((puJ_le (by omega) (by omega) (by omega) (by omega)).mp q)), xsBd_sm]
      simp only [fX11_over_J82]
      rw [xsLt_eq, xsLt_eq, puI_s1, puI_s1]
      exact ⟨_, rfl, rfl, by dsimp only; rw [puN_y ⟨by omega, by omega⟩]⟩
  · rintro ⟨y4, y5, hu, hl⟩ ⟨q1, q2⟩
    simp only at q1 q2
    subst q1; subst q2
    simp only [fX11_over_L21]
    rw [p_many hw, xsBd_sm, pu_out (by omega)]
    exact ⟨_, rfl, rfl⟩
theorem q_over : pc_over puRl := by
  intro kIsKept kIsStale hiLatest hiSize scLength scFault scAt scNumber piSegmentsNow enKind enFromX enFromY enToX enToY tiMeetingPairs tiAlongPairs tiSize evSize evCrossings evSegmentsNow grEdges grQueued huSize huBestX huBestY scBytes scTold tiTouching tiLyingAlong evBundle evCrossingOf evEventOf evLeftEvent evRightEvent grDegree grFar grQueue huX huY enX enY enLower evX evY evLower S mThrown mRemembered mHasImage mIsLaid mEvents mCrossings mEdges mTaped mPoint mEnd mBegin mFaultAt mActs mWorld mImage mDraft mEarlier mOne mTwo mShare mCrossingOf mBundle mEventOf mDegree mFrom mTo mMet mTape mFive mTold mFar mViews mHullX mHullY mEndX mEndY mMeets mMeetsOf mX mY mD mHeightUp mHeightLow mEventX mEventY mEventD mUpper mLower hR a0 a1
  obtain ⟨n, G, rw, ri, rh, rt, rk, rm⟩ := hR
  obtain ⟨x, rfl, x1, x2⟩ := puI_ex a0
  obtain ⟨y, rfl, y1, y2⟩ := puI_ex a1
  obtain ⟨w1, w2, w3⟩ := id rw
  unfold fX10_over fX11_over
  rw [w2.2.2, p_checkPoint x1 x2 y1 y2, p_noPlace x1 x2 y1 y2, xsBd_sm, xsBd_sm]
  by_cases c : puInC x ∧ puInC y
  · have er := p_over10 w1 w2.1 c.1 c.2
    obtain ⟨r3, er3, hr3⟩ := p_mover21 w1 w3 c.1 c.2 (hu := mHeightUp) (hl := mHeightLow)
    rw [puCk_pos c, puB_neg (fun q => q c), puE_neg (fun q => q c)]
    simp only [xsTh]
    rw [er, xsBd_sm, xsBr_T, xsBd_some er3]
    simp only [fX10_over_J87, fX11_over_J90]
    exact ⟨_, _, rfl, rfl, Or.inl ⟨_, rfl, hr3.symm, rfl, n, G, rw, ri, rh, rt, rk, rm⟩⟩
  · rw [puCk_neg c, puB_pos c, puE_pos c]
    simp only [xsTh]
    rw [xsBr_neg (by decide)]
    exact ⟨_, _, rfl, rfl, Or.inr ⟨_, _, rfl, rfl, rfl, n, G, rw, ri, rh, rt, rk, rm⟩⟩

