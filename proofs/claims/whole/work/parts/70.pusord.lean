/-! PURE: who is ahead behind an EVENT -/
theorem pu_sg63 (a : Int64) : a >>> ((63 : Int32).toInt64 &&& 63) = if a.toInt < 0 then -1 else 0 := by
  have b1 := Int64.le_toInt a
  have b2 := Int64.toInt_lt a
  rw [← Int64.toInt_inj]
  show (a >>> ((63 : Int32).toInt64 &&& 63)).toBitVec.toInt = _
  rw [Int64.toBitVec_shiftRight]
  show (a.toBitVec.sshiftRight ((((63 : Int32).toInt64 &&& 63) : Int64).toBitVec.smod 64).toNat).toInt = _
  rw [show ((((63 : Int32).toInt64 &&& 63) : Int64).toBitVec.smod 64).toNat = 63 by decide +kernel, BitVec.toInt_sshiftRight, Int.shiftRight_eq_div_pow]
  have e : a.toBitVec.toInt = a.toInt := rfl
  rw [e]
  by_cases c : a.toInt < 0
  · rw [if_pos c, show (-1 : Int64).toInt = -1 by decide +kernel]; omega
  · rw [if_neg c, show (0 : Int64).toInt = 0 by decide +kernel]; omega
theorem pu_sgU (a : Int64) : ((a.toUInt64 >>> ((63 : Int32).toInt64.toUInt64 &&& Int64.toUInt64 63)).toInt64) = if a.toInt < 0 then 1 else 0 := by
  have b1 := Int64.le_toInt a
  have b2 := Int64.toInt_lt a
  rw [← Int64.toBitVec_inj]
  show (a.toUInt64 >>> ((63 : Int32).toInt64.toUInt64 &&& Int64.toUInt64 63)).toBitVec = _
  rw [UInt64.toBitVec_shiftRight]
  show a.toBitVec >>> ((((63 : Int32).toInt64.toUInt64 &&& Int64.toUInt64 63) : UInt64).toBitVec % 64).toNat = _
  rw [show ((((63 : Int32).toInt64.toUInt64 &&& Int64.toUInt64 63) : UInt64).toBitVec % 64).toNat = 63 by decide +kernel]
  apply BitVec.eq_of_toNat_eq
  rw [BitVec.toNat_ushiftRight, Nat.shiftRight_eq_div_pow]
  have c := BitVec.toInt_eq_toNat_cond a.toBitVec
  have d := a.toBitVec.isLt
  have e : a.toInt = a.toBitVec.toInt := rfl
  by_cases h : 2 * a.toBitVec.toNat < 2 ^ 64
  · rw [if_pos h] at c
    rw [if_neg (by omega), show (0 : Int64).toBitVec.toNat = 0 by decide +kernel]; omega
  · rw [if_neg h] at c
    rw [if_pos (by omega), show (1 : Int64).toBitVec.toNat = 1 by decide +kernel]; omega
theorem p_signum {a : Int} (h : -9000000000000000000 ≤ a ∧ a ≤ 9000000000000000000) : fJ13_signum_95d88 (puJ a) = some (puI (if a < 0 then -1 else if a = 0 then 0 else 1)) := by
  unfold fJ13_signum_95d88
  rw [puJ_neg, pu_sg63, pu_sgU, puJ_toInt (by omega) (by omega), puJ_toInt (by omega) (by omega)]
  by_cases c : a < 0
  · rw [if_pos c, if_neg (by omega), if_pos c]; rfl
  · rw [if_neg c, if_neg c]
    by_cases d : a = 0
    · rw [if_neg (by omega), if_pos d]; rfl
    · rw [if_pos (by omega), if_neg d]; rfl
noncomputable def su_y (q : puS) (p : puP) : Rat := puE (puW q = 0) p.2 ((q.2.1 : Rat) + (p.1 - (q.1 : Rat)) * (puH q : Rat) / (puW q : Rat))
theorem su_y0 {q : puS} {p : puP} (h : puW q = 0) : su_y q p = p.2 := puE_pos h
theorem su_yw {q : puS} {p : puP} (h : puW q ≠ 0) : su_y q p * (puW q : Rat) = (q.2.1 : Rat) * (puW q : Rat) + (p.1 - (q.1 : Rat)) * (puH q : Rat) := by
  have hd : (puW q : Rat) ≠ 0 := fun e => h (Rat.intCast_eq_zero_iff.mp e)
  have e : (p.1 - (q.1 : Rat)) * (puH q : Rat) / (puW q : Rat) * (puW q : Rat) = (p.1 - (q.1 : Rat)) * (puH q : Rat) := Rat.div_mul_cancel hd
  unfold su_y
  rw [puE_neg h]
  grind
noncomputable def su_k (q : puS) : puP := puE (puW q = 0) (1, 0) (0, (puH q : Rat) / (puW q : Rat))
def su_s (a b : puS) : Int := puH a * puW b - puH b * puW a
def su_al (q : puS) (p : puP) : Prop := puLe (puA q) p ∧ puLt p (puZ q)
def su_ah (a b : puS) (p : puP) (i j : Nat) : Prop := su_y a p < su_y b p ∨ (su_y a p = su_y b p ∧ ((p.2 < su_y a p ∧ puLt (su_k b) (su_k a)) ∨ (¬ p.2 < su_y a p ∧ puLt (su_k a) (su_k b)) ∨ (su_k a = su_k b ∧ i < j)))
theorem su_irr {a : puS} {p : puP} {i : Nat} : ¬ su_ah a a p i i := by
  rintro (h | ⟨-, ⟨-, h⟩ | ⟨-, h⟩ | ⟨-, h⟩⟩)
  · exact absurd h (by grind)
  · exact puLt_irr h
  · exact puLt_irr h
  · omega
theorem su_tot {a b : puS} {p : puP} {i j : Nat} (h : i ≠ j) : su_ah a b p i j ∨ su_ah b a p j i := by
  unfold su_ah
  by_cases c1 : su_y a p < su_y b p
  · exact Or.inl (Or.inl c1)
  by_cases c2 : su_y b p < su_y a p
  · exact Or.inr (Or.inl c2)
  have e : su_y a p = su_y b p := by grind
  rw [e]
  rcases puLt_tri (su_k a) (su_k b) with k | k | k
  · by_cases c : p.2 < su_y b p
    · exact Or.inr (Or.inr ⟨rfl, Or.inl ⟨c, k⟩⟩)
    · exact Or.inl (Or.inr ⟨rfl, Or.inr (Or.inl ⟨c, k⟩)⟩)
  · rcases Nat.lt_or_gt_of_ne h with q | q
    · exact Or.inl (Or.inr ⟨rfl, Or.inr (Or.inr ⟨k, q⟩)⟩)
    · exact Or.inr (Or.inr ⟨rfl, Or.inr (Or.inr ⟨k.symm, q⟩)⟩)
  · by_cases c : p.2 < su_y b p
    · exact Or.inl (Or.inr ⟨rfl, Or.inl ⟨c, k⟩⟩)
    · exact Or.inr (Or.inr ⟨rfl, Or.inr (Or.inl ⟨c, k⟩)⟩)
theorem su_tr {a b c : puS} {p : puP} {i j k : Nat} (h1 : su_ah a b p i j) (h2 : su_ah b c p j k) : su_ah a c p i k := by
  unfold su_ah at *
  rcases h1 with h1 | ⟨e1, h1⟩
  · rcases h2 with h2 | ⟨e2, h2⟩
    · left; grind
    · left; grind
  · rcases h2 with h2 | ⟨e2, h2⟩
    · left; grind
    · right
      rw [e1] at h1 ⊢
      refine ⟨e2, ?_⟩
      rcases h1 with ⟨c1, d1⟩ | ⟨c1, d1⟩ | ⟨d1, d2⟩
      · rcases h2 with ⟨c2, f1⟩ | ⟨c2, f1⟩ | ⟨f1, f2⟩
        · exact Or.inl ⟨c1, puLt_tr f1 d1⟩
        · exact absurd c1 c2
        · exact Or.inl ⟨c1, by rw [← f1]; exact d1⟩
      · rcases h2 with ⟨c2, f1⟩ | ⟨c2, f1⟩ | ⟨f1, f2⟩
        · exact absurd c2 c1
        · exact Or.inr (Or.inl ⟨c1, puLt_tr d1 f1⟩)
        · exact Or.inr (Or.inl ⟨c1, by rw [← f1]; exact d1⟩)
      · rcases h2 with ⟨c2, f1⟩ | ⟨c2, f1⟩ | ⟨f1, f2⟩
        · exact Or.inl ⟨c2, by rw [d1]; exact f1⟩
        · exact Or.inr (Or.inl ⟨c2, by rw [d1]; exact f1⟩)
        · exact Or.inr (Or.inr ⟨d1.trans f1, by omega⟩)
theorem su_al0 {q : puS} {p : puP} (h : su_al q p) (hw : puW q = 0) : 0 < puH q := by
  obtain ⟨h1, h2⟩ := h
  have e : q.2.2.1 = q.1 := by unfold puW at hw; omega
  have h3 := puLeLt_tr h1 h2
  unfold puLt puA puZ at h3
  simp only [e] at h3
  have h4 : (q.2.1 : Rat) < (q.2.2.2.1 : Rat) := by grind
  have h5 := Rat.intCast_lt_intCast.mp h4
  unfold puH; omega
theorem su_sk {a b : puS} {p : puP} (va : puV a) (vb : puV b) (ha : su_al a p) (hb : su_al b p) : (su_s a b < 0 ↔ puLt (su_k a) (su_k b)) ∧ (su_s a b = 0 ↔ su_k a = su_k b) := by
  have wa := puV_w va
  have wb := puV_w vb
  unfold su_s su_k
  by_cases ca : puW a = 0
  · have ra := su_al0 ha ca
    rw [puE_pos ca]
    by_cases cb : puW b = 0
    · rw [puE_pos cb, ca, cb]
      simp only [Int.mul_zero, Int.sub_self]
      exact ⟨⟨fun q => absurd q (by omega), fun q => absurd q puLt_irr⟩, by simp⟩
    · rw [puE_neg cb, ca]
      have m : 0 < puH a * puW b := Int.mul_pos ra (by omega)
      simp only [Int.mul_zero, Int.sub_zero, puLt, Prod.mk.injEq]
      refine ⟨⟨fun q => by omega, fun q => ?_⟩, ⟨fun q => by omega, fun q => ?_⟩⟩
      · exfalso; grind
      · exfalso; grind
  · rw [puE_neg ca]
    by_cases cb : puW b = 0
    · have rb := su_al0 hb cb
      rw [puE_pos cb, cb]
      have m : 0 < puH b * puW a := Int.mul_pos rb (by omega)
      simp only [Int.mul_zero, Int.zero_sub, puLt, Prod.mk.injEq]
      refine ⟨⟨fun q => Or.inl (by grind), fun q => by omega⟩, ⟨fun q => by omega, fun q => ?_⟩⟩
      exfalso; grind
    · rw [puE_neg cb]
      have pa : 0 < (puW a : Rat) := Rat.intCast_pos.mpr (by omega)
      have pb : 0 < (puW b : Rat) := Rat.intCast_pos.mpr (by omega)
      have na : (puW a : Rat) ≠ 0 := by grind
      have nb : (puW b : Rat) ≠ 0 := by grind
      have ea : (puH a : Rat) / (puW a : Rat) * (puW a : Rat) = (puH a : Rat) := Rat.div_mul_cancel na
      have eb : (puH b : Rat) / (puW b : Rat) * (puW b : Rat) = (puH b : Rat) := Rat.div_mul_cancel nb
      have g := pg_cmp (X := puH a) (Y := puH b) (D := puW a) (E := puW b) (p := (puH a : Rat) / (puW a : Rat)) (q := (puH b : Rat) / (puW b : Rat)) (by omega) (by omega) ea.symm eb.symm
      simp only [puLt, Prod.mk.injEq]
      rw [← g.1, ← g.2]
      refine ⟨⟨fun q => Or.inr ⟨trivial, by omega⟩, fun q => ?_⟩, ⟨fun q => ⟨trivial, by omega⟩, fun q => by omega⟩⟩
      rcases q with q | q
      · exact absurd q (by grind)
      · omega
theorem su_sym (a b : puS) : su_s b a = -su_s a b := by unfold su_s; omega
theorem su_ahs {a b : puS} {p : puP} (va : puV a) (vb : puV b) (ha : su_al a p) (hb : su_al b p) (i j : Nat) : su_ah a b p i j ↔ (su_y a p < su_y b p ∨ (su_y a p = su_y b p ∧ ((p.2 < su_y a p ∧ 0 < su_s a b) ∨ (¬ p.2 < su_y a p ∧ su_s a b < 0) ∨ (su_s a b = 0 ∧ i < j)))) := by
  have g1 := su_sk va vb ha hb
  have g2 := su_sk vb va hb ha
  have g3 := su_sym a b
  unfold su_ah
  rw [← g1.1, ← g1.2, ← g2.1, g3, show -su_s a b < 0 ↔ 0 < su_s a b by omega]
