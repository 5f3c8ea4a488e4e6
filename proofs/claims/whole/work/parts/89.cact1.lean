/-! PURE: the readers of texts: numbers -/
def ac_v (tp : Nat → Int32) (s : Nat) : Nat → Int
  | 0 => 0
  | j + 1 => 10 * ac_v tp s j + ((tp (s + j)).toInt - 48)
theorem ac_dg {tp : Nat → Int32} {i : Nat} (h : ac_P tp 48 57 i) : tp i = puI (tp i).toInt ∧ 48 ≤ (tp i).toInt ∧ (tp i).toInt ≤ 57 := by
  obtain ⟨h1, h2⟩ := h
  rw [Int32.le_iff_toInt_le] at h1 h2
  exact ⟨puI_of _, h1, h2⟩
theorem ac_vb {tp : Nat → Int32} {s : Nat} : ∀ j, (∀ i, i < j → ac_P tp 48 57 (s + i)) → 0 ≤ ac_v tp s j ∧ ac_v tp s j + 1 ≤ 10 ^ j
  | 0, _ => ⟨Int.le_refl 0, Int.le_refl 1⟩
  | j + 1, h => by
    obtain ⟨h1, h2⟩ := ac_vb j (fun i hi => h i (by omega))
    obtain ⟨-, d1, d2⟩ := ac_dg (h j (by omega))
    rw [Int.pow_succ]
    show 0 ≤ 10 * ac_v tp s j + ((tp (s + j)).toInt - 48) ∧ 10 * ac_v tp s j + ((tp (s + j)).toInt - 48) + 1 ≤ 10 ^ j * 10
    omega
theorem ac_v3 {tp : Nat → Int32} {s j : Nat} (h : ∀ i, i < j → ac_P tp 48 57 (s + i)) (hj : j ≤ 3) : 0 ≤ ac_v tp s j ∧ ac_v tp s j ≤ 999 := by
  obtain ⟨h1, h2⟩ := ac_vb j h
  have h3 : (10 : Int) ^ j ≤ 1000 := by
    rcases (show j = 0 ∨ j = 1 ∨ j = 2 ∨ j = 3 by omega) with rfl | rfl | rfl | rfl <;> decide
  omega
/-- the value told by its first three digits -/
noncomputable def ac_n (tp : Nat → Int32) (s e : Nat) : Int := ac_v tp s (min 3 (e - s))
theorem ac_nb {tp : Nat → Int32} {L s : Nat} (hs : s ≤ L) : 0 ≤ ac_n tp s (ac_d tp L s) ∧ ac_n tp s (ac_d tp L s) ≤ 999 := by
  obtain ⟨s1, s2, s3, s4⟩ := ac_spec (P := ac_P tp 48 57) hs
  refine ac_v3 (fun i hi => s3 (s + i) (by omega) ?_) (by omega)
  have : i < ac_d tp L s - s := by omega
  show s + i < ac_d tp L s
  omega
/-- one digit more -/
theorem ac_n1 {tp : Nat → Int32} {s k : Nat} (hk : s ≤ k) (hd : ac_P tp 48 57 k) : (k - s < 3 → puI (ac_n tp s (k + 1)) = puI (10 * ac_n tp s k) + tp k - (48 : Int32)) ∧ (3 ≤ k - s → ac_n tp s (k + 1) = ac_n tp s k) := by
  obtain ⟨d0, d1, d2⟩ := ac_dg hd
  constructor
  · intro h
    unfold ac_n
    rw [show min 3 (k + 1 - s) = (k - s) + 1 by omega, show min 3 (k - s) = k - s by omega]
    show puI (10 * ac_v tp s (k - s) + ((tp (s + (k - s))).toInt - 48)) = _
    rw [show s + (k - s) = k by omega]
    generalize ac_v tp s (k - s) = v
    rw [d0, show (48 : Int32) = puI 48 by rfl, puI_add, puI_sub, ← d0]
    congr 1; omega
  · intro h
    unfold ac_n
    rw [show min 3 (k + 1 - s) = min 3 (k - s) by omega]
theorem p_digits {by0 tp : Nat → Int32} {L s : Nat} {fa nu a0 : Int32} (hL : L ≤ 400) (hb : ∀ i, i < L → by0 i = tp i) (hs : s ≤ L) : fX6_readDigits by0 (puI (L : Int)) fa (puI (s : Int)) nu a0 = some (puB (1 ≤ ac_d tp L s - s ∧ ac_d tp L s - s ≤ 3), puE (1 ≤ ac_d tp L s - s ∧ ac_d tp L s - s ≤ 3) fa (puE (ac_d tp L s = s) (puI (s : Int)) a0), puI (ac_d tp L s : Int), puI (ac_n tp s (ac_d tp L s))) := by
  obtain ⟨s1, s2, s3, s4⟩ := ac_spec (P := ac_P tp 48 57) hs
  have key : puOk (xsWh (fun s3 => fX6_readDigits_L7 by0 (puI (L : Int)) (puI (s : Int)) s3.1 s3.2) ((0 : Int32), puI (s : Int))) (fun r => r = (puI (ac_n tp s (ac_d tp L s)), puI (ac_d tp L s : Int))) := by
    refine puFor L (fun k z => s ≤ k ∧ (∀ i, s ≤ i → i < k → ac_P tp 48 57 i) ∧ z.1 = puI (ac_n tp s k) ∧ z.2 = puI (k : Int)) _ ?_ ?_ s _ hs ⟨Nat.le_refl _, fun i i1 i2 => by omega, by unfold ac_n; rw [Nat.sub_self]; rfl, rfl⟩
    · rintro k ⟨y1, y2⟩ hk ⟨q0, q1, q2, q3⟩
      simp only at q0 q1 q2 q3
      subst q2
      subst q3
      simp only [fX6_readDigits_L7]
      rw [xsBr_neg (fun q => by rw [puI_leN (by omega) (by omega)] at q; omega), xsCk_in (by omega) (by omega) (by omega), puI_clN (by omega), hb k hk]
      by_cases c : tp k < 48
      · rw [xsBr_pos c]
        have e : ac_d tp L s = k := ac_of q0 (by omega) q1 (Or.inr (fun q => Int32.not_lt.mpr q.1 c))
        rw [e]
        exact Or.inr ⟨_, rfl, rfl⟩
      rw [xsBr_neg c, xsCk_in (by omega) (by omega) (by omega)]
      by_cases d : 57 < tp k
      · rw [xsBr_pos d]
        have e : ac_d tp L s = k := ac_of q0 (by omega) q1 (Or.inr (fun q => Int32.not_lt.mpr q.2 d))
        rw [e]
        exact Or.inr ⟨_, rfl, rfl⟩
      have hd : ac_P tp 48 57 k := ⟨Int32.not_lt.mp c, Int32.not_lt.mp d⟩
      have n1 := ac_n1 q0 hd
      have mr : ∀ i, s ≤ i → i < k + 1 → ac_P tp 48 57 i := fun i i1 i2 => by
        by_cases f : i = k
        · rw [f]; exact hd
        · exact q1 i i1 (by omega)
      rw [xsBr_neg d, puI_sub, show (k : Int) - (s : Int) = ((k - s : Nat) : Int) by omega]
      left
      by_cases f : 3 ≤ k - s
      · rw [xsBr_pos (show (3 : Int32) ≤ puI ((k - s : Nat) : Int) by rw [show (3 : Int32) = puI ((3 : Nat) : Int) by rfl, puI_leN (by omega) (by omega)]; exact f), xsBd_sm]
        simp only [fX6_readDigits_J74]
        rw [xsLt_eq, puI_s1, ← n1.2 f]
        exact ⟨_, rfl, by omega, mr, rfl, rfl⟩
      · rw [xsBr_neg (show ¬ (3 : Int32) ≤ puI ((k - s : Nat) : Int) by rw [show (3 : Int32) = puI ((3 : Nat) : Int) by rfl, puI_leN (by omega) (by omega)]; exact f), xsCk_in (by omega) (by omega) (by omega), xsLt_eq, xsBd_sm]
        simp only [fX6_readDigits_J74]
        rw [xsLt_eq, puI_s1, show (10 : Int32) = puI 10 by rfl, puI_mul, Int.mul_comm _ 10, ← n1.1 (by omega)]
        exact ⟨_, rfl, by omega, mr, rfl, rfl⟩
    · rintro ⟨y1, y2⟩ ⟨q0, q1, q2, q3⟩
      simp only at q0 q1 q2 q3
      subst q2
      subst q3
      simp only [fX6_readDigits_L7]
      rw [xsBr_pos (Int32.le_refl _)]
      have e : ac_d tp L s = L := ac_of q0 (Nat.le_refl _) q1 (Or.inl rfl)
      rw [e]
      exact ⟨_, rfl, rfl⟩
  obtain ⟨r, er, rfl⟩ := key
  unfold fX6_readDigits
  rw [xsBd_some er]
  unfold fX6_readDigits_J87 fX6_refuse
  dsimp only
  have b1 : s ≤ ac_d tp L s := s1
  have b2 : ac_d tp L s ≤ L := s2
  by_cases c : ac_d tp L s = s
  · have nk : ¬ (1 ≤ ac_d tp L s - s ∧ ac_d tp L s - s ≤ 3) := fun q => by omega
    rw [xsBr_pos (by rw [c]), xsBd_sm, xsCk_pos xsB_0, puB_neg nk, puE_neg nk, puE_pos c, c]
  rw [xsBr_neg (fun q => c ((puI_eqN (by omega) (by omega)).mp q)), puI_sub, show (ac_d tp L s : Int) - (s : Int) = ((ac_d tp L s - s : Nat) : Int) by omega]
  by_cases d : ac_d tp L s - s ≤ 3
  · have k : 1 ≤ ac_d tp L s - s ∧ ac_d tp L s - s ≤ 3 := ⟨by omega, d⟩
    rw [xsBr_pos (show puI ((ac_d tp L s - s : Nat) : Int) ≤ (3 : Int32) by rw [show (3 : Int32) = puI ((3 : Nat) : Int) by rfl, puI_leN (by omega) (by omega)]; exact d), puB_pos k, puE_pos k]
  · have nk : ¬ (1 ≤ ac_d tp L s - s ∧ ac_d tp L s - s ≤ 3) := fun q => d q.2
    rw [xsBr_neg (show ¬ puI ((ac_d tp L s - s : Nat) : Int) ≤ (3 : Int32) by rw [show (3 : Int32) = puI ((3 : Nat) : Int) by rfl, puI_leN (by omega) (by omega)]; exact d), xsBd_sm, xsBr_pos rfl, puB_neg nk, puE_neg nk, puE_neg c]
/-- a number within bounds stands there -/
def ac_k (tp : Nat → Int32) (L p : Nat) (hi : Int) : Prop := (1 ≤ ac_d tp L (ac_s tp L p) - ac_s tp L p ∧ ac_d tp L (ac_s tp L p) - ac_s tp L p ≤ 3) ∧ ac_n tp (ac_s tp L p) (ac_d tp L (ac_s tp L p)) ≤ hi
theorem p_num {by0 tp : Nat → Int32} {L p : Nat} {fa nu : Int32} {hi : Int} (hL : L ≤ 400) (hb : ∀ i, i < L → by0 i = tp i) (hp : p ≤ L) (h1 : -10 ≤ hi) (h2 : hi ≤ 1000) : fX6_readNumber by0 (puI (L : Int)) fa (puI (p : Int)) nu (puI hi) = some (puB (ac_k tp L p hi), puE (ac_k tp L p hi) fa (puI (ac_s tp L p : Int)), puI (ac_d tp L (ac_s tp L p) : Int), puI (ac_n tp (ac_s tp L p) (ac_d tp L (ac_s tp L p)))) := by
  unfold fX6_readNumber fX6_refuse ac_k
  have hs : ac_s tp L p ≤ L := (ac_spec hp).2.1
  rw [p_skip hL hb hp, xsBd_sm, p_digits hL hb hs, xsBd_sm]
  obtain ⟨n0, n9⟩ := ac_nb (tp := tp) hs
  generalize ac_s tp L p = s at *
  generalize ac_d tp L s = e at *
  dsimp only
  by_cases c : 1 ≤ e - s ∧ e - s ≤ 3
  case neg =>
    have nk : ¬ ((1 ≤ e - s ∧ e - s ≤ 3) ∧ ac_n tp s e ≤ hi) := fun q => c q.1
    rw [pu_bf c, puE_neg c, puB_neg nk, puE_neg nk]
    by_cases d : e = s
    · rw [puE_pos d]
    · rw [puE_neg d]
  rw [pu_bt c, puE_pos c]
  by_cases d : ac_n tp s e ≤ hi
  · rw [xsBr_pos ((puI_le (by omega) (by omega) (by omega) (by omega)).mpr d), puB_pos ⟨c, d⟩, puE_pos ⟨c, d⟩]
  · have nk : ¬ ((1 ≤ e - s ∧ e - s ≤ 3) ∧ ac_n tp s e ≤ hi) := fun q => d q.2
    rw [xsBr_neg (fun q => d ((puI_le (by omega) (by omega) (by omega) (by omega)).mp q)), xsBd_sm, xsBr_pos rfl, puB_neg nk, puE_neg nk]
theorem p_reads {tp told : Nat → Int32} {L p ix : Nat} {bg : Int32} {hi : Int} (hL : L ≤ 400) (hp : p ≤ L) (hx : ix < 5) (h1 : -10 ≤ hi) (h2 : hi ≤ 1000) : fX11_reads tp (puI (p : Int)) (puI (L : Int)) bg told (puI (ix : Int)) 0 (puI hi) = some (puB (ac_k tp L p hi), puI (ac_d tp L (ac_s tp L p) : Int), puI (ac_s tp L p : Int), upd told ix (puI (ac_n tp (ac_s tp L p) (ac_d tp L (ac_s tp L p))))) := by
  unfold fX11_reads ac_k
  have hs : ac_s tp L p ≤ L := (ac_spec hp).2.1
  rw [p_blanks hL hp, xsBd_sm]
  obtain ⟨n0, n9⟩ := ac_nb (tp := tp) hs
  generalize ac_s tp L p = s at *
  obtain ⟨s1, s2, s3, s4⟩ := ac_spec (P := ac_P tp 48 57) hs
  have b1 : s ≤ ac_d tp L s := s1
  have b2 : ac_d tp L s ≤ L := s2
  have key : puOk (xsWh (fun s6 => fX11_reads_L10 tp (puI (L : Int)) s6.1 s6.2.1 s6.2.2) ((0 : Int32), (0 : Int32), puI (s : Int))) (fun r => r = (puI (ac_n tp s (ac_d tp L s)), puI ((ac_d tp L s - s : Nat) : Int), puI (ac_d tp L s : Int))) := by
    refine puFor L (fun k z => s ≤ k ∧ (∀ i, s ≤ i → i < k → ac_P tp 48 57 i) ∧ z.1 = puI (ac_n tp s k) ∧ z.2.1 = puI ((k - s : Nat) : Int) ∧ z.2.2 = puI (k : Int)) _ ?_ ?_ s _ hs ⟨Nat.le_refl _, fun i i1 i2 => by omega, by unfold ac_n; rw [Nat.sub_self]; rfl, by rw [Nat.sub_self]; rfl, rfl⟩
    · rintro k ⟨y1, y2, y3⟩ hk ⟨q0, q1, q2, q3, q4⟩
      simp only at q0 q1 q2 q3 q4
      subst q2
      subst q3
      subst q4
      simp only [fX11_reads_L10]
      rw [p_isAt hL (by omega), xsBd_sm]
      by_cases hd : ac_P tp 48 57 k
      case neg =>
        rw [pu_bf (fun q => hd q.2)]
        have e : ac_d tp L s = k := ac_of q0 (by omega) q1 (Or.inr hd)
        rw [e]
        exact Or.inr ⟨_, rfl, rfl⟩
      rw [pu_bt ⟨hk, hd⟩]
      have n1 := ac_n1 q0 hd
      have mr : ∀ i, s ≤ i → i < k + 1 → ac_P tp 48 57 i := fun i i1 i2 => by
        by_cases f : i = k
        · rw [f]; exact hd
        · exact q1 i i1 (by omega)
      left
      have cn : puI ((k - s : Nat) : Int) + (1 : Int32) = puI ((k + 1 - s : Nat) : Int) := by rw [puI_s1]; congr 1; omega
      by_cases f : 3 ≤ k - s
      · rw [xsBr_pos (show (3 : Int32) ≤ puI ((k - s : Nat) : Int) by rw [show (3 : Int32) = puI ((3 : Nat) : Int) by rfl, puI_leN (by omega) (by omega)]; exact f), xsBd_sm]
        simp only [fX11_reads_J50]
        rw [xsLt_eq, xsLt_eq, cn, puI_s1, ← n1.2 f]
        exact ⟨_, rfl, by omega, mr, rfl, rfl, rfl⟩
      · rw [xsBr_neg (show ¬ (3 : Int32) ≤ puI ((k - s : Nat) : Int) by rw [show (3 : Int32) = puI ((3 : Nat) : Int) by rfl, puI_leN (by omega) (by omega)]; exact f), xsCk_in (by omega) (by omega) (by omega), puI_clN (by omega), xsBd_sm]
        simp only [fX11_reads_J50]
        rw [xsLt_eq, xsLt_eq, cn, puI_s1, show (10 : Int32) = puI 10 by rfl, puI_mul, ← n1.1 (by omega)]
        exact ⟨_, rfl, by omega, mr, rfl, rfl, rfl⟩
    · rintro ⟨y1, y2, y3⟩ ⟨q0, q1, q2, q3, q4⟩
      simp only at q0 q1 q2 q3 q4
      subst q2
      subst q3
      subst q4
      simp only [fX11_reads_L10]
      rw [p_isAt hL (by omega), xsBd_sm, pu_bf (fun q => by omega)]
      have e : ac_d tp L s = L := ac_of q0 (Nat.le_refl _) q1 (Or.inl rfl)
      rw [e]
      exact ⟨_, rfl, rfl⟩
  obtain ⟨r, er, rfl⟩ := key
  dsimp only
  rw [xsBd_some er]
  unfold fX11_reads_J68
  dsimp only
  rw [xsCk_in (by omega) (by omega) (by omega), xsLt_eq, puI_clN (by omega), puI_l (by omega) (by omega), show (1 : Int64) = puJ 1 by rfl, show (3 : Int64) = puJ 3 by rfl, p_in (by omega) (by omega) (by omega), xsBd_sm, puI_l (by omega) (by omega), puI_l (by omega) (by omega), show (0 : Int32).toInt64 = puJ 0 by rfl, p_in (by omega) (by omega) (by omega), xsBd_sm]
  generalize ac_d tp L s = e at *
  by_cases c : 1 ≤ ((e - s : Nat) : Int) ∧ ((e - s : Nat) : Int) ≤ 3
  case neg =>
    have nk : ¬ ((1 ≤ e - s ∧ e - s ≤ 3) ∧ ac_n tp s e ≤ hi) := fun q => c (by omega)
    rw [pu_bf c, puB_neg nk]
  rw [pu_bt c]
  by_cases d : ac_n tp s e ≤ hi
  · have d' : 0 ≤ ac_n tp s e ∧ ac_n tp s e ≤ hi := ⟨n0, d⟩
    rw [pu_bt d', puB_pos (show (1 ≤ e - s ∧ e - s ≤ 3) ∧ ac_n tp s e ≤ hi from ⟨by omega, d⟩)]
  · have d' : ¬ (0 ≤ ac_n tp s e ∧ ac_n tp s e ≤ hi) := fun q => d q.2
    rw [pu_bf d', puB_neg (show ¬ ((1 ≤ e - s ∧ e - s ≤ 3) ∧ ac_n tp s e ≤ hi) from fun q => d q.2)]
/-- a number with its sign -/
def ac_neg (tp : Nat → Int32) (L p : Nat) : Prop := ac_s tp L p < L ∧ ac_P tp 45 45 (ac_s tp L p)
noncomputable def ac_0 (tp : Nat → Int32) (L p : Nat) : Nat := puE (ac_neg tp L p) (ac_s tp L p + 1) (ac_s tp L p)
noncomputable def ac_e (tp : Nat → Int32) (L p : Nat) : Nat := ac_d tp L (ac_0 tp L p)
noncomputable def ac_z (tp : Nat → Int32) (L p : Nat) : Int := puE (ac_neg tp L p) (-(ac_n tp (ac_0 tp L p) (ac_e tp L p))) (ac_n tp (ac_0 tp L p) (ac_e tp L p))
noncomputable def ac_f (tp : Nat → Int32) (L p : Nat) : Nat := puE (ac_e tp L p = ac_0 tp L p) (ac_0 tp L p) (ac_s tp L p)
def ac_q (tp : Nat → Int32) (L p : Nat) : Prop := 1 ≤ ac_e tp L p - ac_0 tp L p ∧ ac_e tp L p - ac_0 tp L p ≤ 3
theorem ac_0b {tp : Nat → Int32} {L p : Nat} (hp : p ≤ L) : ac_0 tp L p ≤ L := by
  have hs : ac_s tp L p ≤ L := (ac_spec hp).2.1
  unfold ac_0
  by_cases c : ac_neg tp L p
  · rw [puE_pos c]; exact c.1
  · rw [puE_neg c]; exact hs
theorem ac_eb {tp : Nat → Int32} {L p : Nat} (hp : p ≤ L) : ac_e tp L p ≤ L := (ac_spec (ac_0b hp)).2.1
theorem ac_fb {tp : Nat → Int32} {L p : Nat} (hp : p ≤ L) : ac_f tp L p ≤ L := by
  have hs : ac_s tp L p ≤ L := (ac_spec hp).2.1
  unfold ac_f
  by_cases c : ac_e tp L p = ac_0 tp L p
  · rw [puE_pos c]; exact ac_0b hp
  · rw [puE_neg c]; exact hs
theorem ac_zb {tp : Nat → Int32} {L p : Nat} (hp : p ≤ L) : puInC (ac_z tp L p) := by
  obtain ⟨n0, n9⟩ := ac_nb (tp := tp) (ac_0b (tp := tp) hp)
  unfold ac_z puInC ac_e
  by_cases c : ac_neg tp L p
  · rw [puE_pos c]; omega
  · rw [puE_neg c]; omega
theorem p_sgnK {by0 tp : Nat → Int32} {L p : Nat} {fa nu : Int32} (hL : L ≤ 400) (hb : ∀ i, i < L → by0 i = tp i) (hp : p ≤ L) : puOk (fX6_readSigned by0 (puI (L : Int)) fa (puI (p : Int)) nu) (fun o => o.1 = puB (ac_q tp L p) ∧ (¬ ac_q tp L p → o.2.1 = puI (ac_f tp L p : Int)) ∧ (ac_q tp L p → o.2.1 = fa ∧ o.2.2.1 = puI (ac_e tp L p : Int) ∧ o.2.2.2 = puI (ac_z tp L p))) := by
  unfold fX6_readSigned
  have hs : ac_s tp L p ≤ L := (ac_spec hp).2.1
  have h0 := ac_0b (tp := tp) hp
  rw [p_skip hL hb hp, xsBd_sm]
  have eneg : xsBr (puI (L : Int) ≤ puI (ac_s tp L p : Int)) (some (0 : Int32)) (xsCk (vp_in (puI (ac_s tp L p : Int)) 400) (xsBr (by0 (puI (ac_s tp L p : Int)).toNatClampNeg = (45 : Int32)) (some (1 : Int32)) (some (0 : Int32)))) = some (puB (ac_neg tp L p)) := by
    by_cases c : L ≤ ac_s tp L p
    · rw [xsBr_pos ((puI_leN (by omega) (by omega)).mpr c), puB_neg (fun q => by have := q.1; omega)]
    · rw [xsBr_neg (fun q => c ((puI_leN (by omega) (by omega)).mp q)), xsCk_in (by omega) (by omega) (by omega), puI_clN (by omega), hb _ (by omega), xsBr_10]
      congr 1
      exact puB_iff ⟨fun q => ⟨by omega, ac_P1.mpr q⟩, fun q => ac_P1.mp q.2⟩
  rw [eneg, xsBd_sm]
  unfold fX6_readSigned_J39
  have e0 : xsBr (puB (ac_neg tp L p) = 0) (some (puI (ac_s tp L p : Int))) (xsLt (puI (ac_s tp L p : Int) + 1) (fun x16 => some x16)) = some (puI (ac_0 tp L p : Int)) := by
    unfold ac_0
    by_cases c : ac_neg tp L p
    · rw [pu_bt c, xsLt_eq, puE_pos c, puI_s1]
    · rw [pu_bf c, puE_neg c]
  rw [e0, xsBd_sm]
  unfold fX6_readSigned_J54
  rw [p_digits hL hb h0, xsBd_sm]
  dsimp only
  by_cases c : ac_q tp L p
  · have c' : 1 ≤ ac_d tp L (ac_0 tp L p) - ac_0 tp L p ∧ ac_d tp L (ac_0 tp L p) - ac_0 tp L p ≤ 3 := c
    rw [pu_bt c', puE_pos c']
    have ez : xsBr (puB (ac_neg tp L p) = 0) (some (puI (ac_n tp (ac_0 tp L p) (ac_d tp L (ac_0 tp L p))))) (some (-puI (ac_n tp (ac_0 tp L p) (ac_d tp L (ac_0 tp L p))))) = some (puI (ac_z tp L p)) := by
      unfold ac_z ac_e
      by_cases d : ac_neg tp L p
      · rw [pu_bt d, puE_pos d, puI_neg]
      · rw [pu_bf d, puE_neg d]
    rw [ez, xsBd_sm]
    exact puOk_some ⟨(puB_pos c).symm, fun q => absurd c q, fun _ => ⟨rfl, rfl, rfl⟩⟩
  · have c' : ¬ (1 ≤ ac_d tp L (ac_0 tp L p) - ac_0 tp L p ∧ ac_d tp L (ac_0 tp L p) - ac_0 tp L p ≤ 3) := c
    rw [pu_bf c', puE_neg c']
    refine puOk_some ⟨(puB_neg c).symm, fun _ => ?_, fun q => absurd q c⟩
    dsimp only
    unfold ac_f
    by_cases d : ac_e tp L p = ac_0 tp L p
    · rw [puE_pos d, puE_pos (show ac_d tp L (ac_0 tp L p) = ac_0 tp L p from d)]
    · rw [puE_neg d, puE_neg (show ¬ ac_d tp L (ac_0 tp L p) = ac_0 tp L p from d)]
theorem p_sgnM {tp told : Nat → Int32} {L p ix : Nat} {bg : Int32} (hL : L ≤ 400) (hp : p ≤ L) (hx : ix < 5) : puOk (fX11_readsSigned tp (puI (p : Int)) (puI (L : Int)) bg told (puI (ix : Int))) (fun o => o.1 = puB (ac_q tp L p) ∧ (¬ ac_q tp L p → o.2.2.1 = puI (ac_f tp L p : Int)) ∧ (ac_q tp L p → o.2.1 = puI (ac_e tp L p : Int) ∧ o.2.2.2 ix = puI (ac_z tp L p) ∧ ∀ j, j ≠ ix → o.2.2.2 j = told j)) := by
  unfold fX11_readsSigned
  have hs : ac_s tp L p ≤ L := (ac_spec hp).2.1
  have h0 := ac_0b (tp := tp) hp
  have i999 : (999 : Int32) = puI 999 := rfl
  rw [p_blanks hL hp, xsBd_sm]
  dsimp only
  rw [p_isAt hL (by omega), xsBd_sm]
  by_cases c : ac_neg tp L p
  case neg =>
    have c' : ¬ (ac_s tp L p < L ∧ ac_P tp 45 45 (ac_s tp L p)) := c
    have e0 : ac_0 tp L p = ac_s tp L p := puE_neg c
    have id : ac_s tp L (ac_s tp L p) = ac_s tp L p := ac_idem hp
    rw [pu_bf c', i999, p_reads hL hs hx (by omega) (by omega), xsBd_sm]
    unfold ac_k
    rw [id]
    obtain ⟨n0, n9⟩ := ac_nb (tp := tp) hs
    have ek : ((1 ≤ ac_d tp L (ac_s tp L p) - ac_s tp L p ∧ ac_d tp L (ac_s tp L p) - ac_s tp L p ≤ 3) ∧ ac_n tp (ac_s tp L p) (ac_d tp L (ac_s tp L p)) ≤ 999) ↔ ac_q tp L p := by
      unfold ac_q ac_e
      rw [e0]
      exact ⟨fun q => q.1, fun q => ⟨q, n9⟩⟩
    dsimp only
    rw [xsCk_pos (puB_xsB _), puB_iff ek]
    refine puOk_some ⟨rfl, fun _ => ?_, fun _ => ⟨?_, ?_, fun j hj => puUpd_ne hj⟩⟩
    · dsimp only
      unfold ac_f
      rw [e0]
      by_cases d : ac_e tp L p = ac_s tp L p
      · rw [puE_pos d]
      · rw [puE_neg d]
    · dsimp only
      unfold ac_e
      rw [e0]
    · dsimp only
      rw [puUpd_eq]
      unfold ac_z ac_e
      rw [puE_neg c, e0]
  have e0 : ac_0 tp L p = ac_s tp L p + 1 := puE_pos c
  rw [pu_bt (show ac_s tp L p < L ∧ ac_P tp 45 45 (ac_s tp L p) from c), xsLt_eq, puI_s1, ← e0, p_isAt hL (by omega), xsBd_sm]
  obtain ⟨s1, s2, s3, s4⟩ := ac_spec (P := ac_P tp 48 57) h0
  by_cases d : ac_0 tp L p < L ∧ ac_P tp 48 57 (ac_0 tp L p)
  case neg =>
    have ee : ac_e tp L p = ac_0 tp L p := ac_of (Nat.le_refl _) h0 (fun i i1 i2 => by omega) (by
      by_cases y : ac_0 tp L p = L
      · exact Or.inl y
      · exact Or.inr (fun q => d ⟨by omega, q⟩))
    have nq : ¬ ac_q tp L p := fun q => by have := q.1; omega
    rw [pu_bf d]
    refine puOk_some ⟨(puB_neg nq).symm, fun _ => ?_, fun q => absurd q nq⟩
    dsimp only
    unfold ac_f
    rw [puE_pos ee]
  rw [pu_bt d]
  have ne : ac_e tp L p ≠ ac_0 tp L p := fun q => by
    rcases s4 with y | y
    · have : ac_e tp L p = L := y
      omega
    · have : ac_run (ac_P tp 48 57) L (ac_0 tp L p) = ac_0 tp L p := q
      rw [this] at y
      exact y d.2
  have id : ac_s tp L (ac_0 tp L p) = ac_0 tp L p := ac_of (Nat.le_refl _) h0 (fun i i1 i2 => by omega) (Or.inr (fun q => by
    have q1 : tp (ac_0 tp L p) = 32 := ac_P1.mp q
    have q2 := d.2.1
    rw [q1] at q2
    exact absurd q2 (by decide)))
  rw [i999, p_reads hL h0 hx (by omega) (by omega), xsBd_sm]
  unfold ac_k
  rw [id]
  obtain ⟨n0, n9⟩ := ac_nb (tp := tp) h0
  have ek : ((1 ≤ ac_d tp L (ac_0 tp L p) - ac_0 tp L p ∧ ac_d tp L (ac_0 tp L p) - ac_0 tp L p ≤ 3) ∧ ac_n tp (ac_0 tp L p) (ac_d tp L (ac_0 tp L p)) ≤ 999) ↔ ac_q tp L p := ⟨fun q => q.1, fun q => ⟨q, n9⟩⟩
  dsimp only
  rw [xsCk_in (by omega) (by omega) (by omega), xsCk_in (by omega) (by omega) (by omega), xsLt_eq, puI_clN (by omega), xsCk_pos (puB_xsB _), puB_iff ek]
  refine puOk_some ⟨rfl, fun _ => ?_, fun _ => ⟨rfl, ?_, fun j hj => ?_⟩⟩
  · dsimp only
    unfold ac_f
    rw [puE_neg ne]
  · dsimp only
    rw [puUpd_eq, puUpd_eq, puI_neg]
    unfold ac_z ac_e
    rw [puE_pos c]
  · dsimp only
    rw [puUpd_ne hj, puUpd_ne hj]
