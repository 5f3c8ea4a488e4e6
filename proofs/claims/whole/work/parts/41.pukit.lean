/-! PURE: ints and longs by whole numbers; the functional texts' steps; loops -/
def puI (z : Int) : Int32 := Int32.ofInt z
def puJ (z : Int) : Int64 := Int64.ofInt z
theorem puI_toInt {z : Int} (h1 : -2147483648 ≤ z) (h2 : z ≤ 2147483647) : (puI z).toInt = z := Int32.toInt_ofInt_of_le (by omega) (by omega)
theorem puJ_toInt {z : Int} (h1 : -9223372036854775808 ≤ z) (h2 : z ≤ 9223372036854775807) : (puJ z).toInt = z := Int64.toInt_ofInt_of_le (by omega) (by omega)
theorem puI_of (x : Int32) : x = puI x.toInt := (Int32.ofInt_toInt x).symm
theorem puJ_of (x : Int64) : x = puJ x.toInt := (Int64.ofInt_toInt x).symm
theorem puI_ex (x : Int32) : ∃ z : Int, x = puI z ∧ -2147483648 ≤ z ∧ z ≤ 2147483647 := ⟨x.toInt, puI_of x, by have := Int32.le_toInt x; omega, by have := Int32.toInt_lt x; omega⟩
theorem puI_add (a b : Int) : puI a + puI b = puI (a + b) := (Int32.ofInt_add a b).symm
theorem puI_sub (a b : Int) : puI a - puI b = puI (a - b) := (Int32.ofInt_sub a b).symm
theorem puI_mul (a b : Int) : puI a * puI b = puI (a * b) := (Int32.ofInt_mul a b).symm
theorem puI_neg (a : Int) : -puI a = puI (-a) := (Int32.ofInt_neg a).symm
theorem puJ_add (a b : Int) : puJ a + puJ b = puJ (a + b) := (Int64.ofInt_add a b).symm
theorem puJ_sub (a b : Int) : puJ a - puJ b = puJ (a - b) := (Int64.ofInt_sub a b).symm
theorem puJ_mul (a b : Int) : puJ a * puJ b = puJ (a * b) := (Int64.ofInt_mul a b).symm
theorem puJ_neg (a : Int) : -puJ a = puJ (-a) := (Int64.ofInt_neg a).symm
theorem puI_lit (n : Nat) : (OfNat.ofNat n : Int32) = puI (OfNat.ofNat n : Int) := by
  show Int32.ofNat n = Int32.ofInt (n : Int)
  exact Int32.ofInt_eq_ofNat.symm
theorem puJ_lit (n : Nat) : (OfNat.ofNat n : Int64) = puJ (OfNat.ofNat n : Int) := by
  show Int64.ofNat n = Int64.ofInt (n : Int)
  exact Int64.ofInt_eq_ofNat.symm
theorem puI_lt {a b : Int} (h1 : -2147483648 ≤ a) (h2 : a ≤ 2147483647) (h3 : -2147483648 ≤ b) (h4 : b ≤ 2147483647) : puI a < puI b ↔ a < b := by
  rw [Int32.lt_iff_toInt_lt, puI_toInt h1 h2, puI_toInt h3 h4]
theorem puI_le {a b : Int} (h1 : -2147483648 ≤ a) (h2 : a ≤ 2147483647) (h3 : -2147483648 ≤ b) (h4 : b ≤ 2147483647) : puI a ≤ puI b ↔ a ≤ b := by
  rw [Int32.le_iff_toInt_le, puI_toInt h1 h2, puI_toInt h3 h4]
theorem puI_eq {a b : Int} (h1 : -2147483648 ≤ a) (h2 : a ≤ 2147483647) (h3 : -2147483648 ≤ b) (h4 : b ≤ 2147483647) : puI a = puI b ↔ a = b := by
  rw [← Int32.toInt_inj, puI_toInt h1 h2, puI_toInt h3 h4]
theorem puJ_lt {a b : Int} (h1 : -9223372036854775808 ≤ a) (h2 : a ≤ 9223372036854775807) (h3 : -9223372036854775808 ≤ b) (h4 : b ≤ 9223372036854775807) : puJ a < puJ b ↔ a < b := by
  rw [Int64.lt_iff_toInt_lt, puJ_toInt h1 h2, puJ_toInt h3 h4]
theorem puJ_le {a b : Int} (h1 : -9223372036854775808 ≤ a) (h2 : a ≤ 9223372036854775807) (h3 : -9223372036854775808 ≤ b) (h4 : b ≤ 9223372036854775807) : puJ a ≤ puJ b ↔ a ≤ b := by
  rw [Int64.le_iff_toInt_le, puJ_toInt h1 h2, puJ_toInt h3 h4]
theorem puJ_eq {a b : Int} (h1 : -9223372036854775808 ≤ a) (h2 : a ≤ 9223372036854775807) (h3 : -9223372036854775808 ≤ b) (h4 : b ≤ 9223372036854775807) : puJ a = puJ b ↔ a = b := by
  rw [← Int64.toInt_inj, puJ_toInt h1 h2, puJ_toInt h3 h4]
theorem puI_l {a : Int} (h1 : -2147483648 ≤ a) (h2 : a ≤ 2147483647) : (puI a).toInt64 = puJ a := by
  rw [← Int64.toInt_inj, Int32.toInt_toInt64, puI_toInt h1 h2, puJ_toInt (by omega) (by omega)]
theorem puI_nI (n : Nat) : nI n = puI (n : Int) := Int32.ofInt_eq_ofNat.symm
theorem puI_clN {k : Nat} (h : k < 2147483648) : (puI (k : Int)).toNatClampNeg = k := by rw [← puI_nI]; exact nI_clamp (by omega)
theorem puI_cl {a : Int} (h0 : 0 ≤ a) (h : a < 2147483648) : (puI a).toNatClampNeg = a.toNat := by
  obtain ⟨k, rfl⟩ := Int.eq_ofNat_of_zero_le h0
  rw [puI_clN (by omega)]; rfl
theorem puI_in {a : Int} {N : Nat} (h0 : 0 ≤ a) (h : a < (N : Int)) (hN : N ≤ 100000) : vp_in (puI a) N := by
  obtain ⟨k, rfl⟩ := Int.eq_ofNat_of_zero_le h0
  rw [← puI_nI]; exact vp_in_nI (by omega) (by omega)
theorem xsCk_in {β : Type} {a : Int} {N : Nat} {k : Option β} (h0 : 0 ≤ a) (h : a < (N : Int)) (hN : N ≤ 100000) : xsCk (vp_in (puI a) N) k = k := xsCk_pos (puI_in h0 h hN)
theorem xsLt_eq {α β : Type} (e : α) (k : α → Option β) : xsLt e k = k e := rfl
theorem xsBd_sm {α β : Type} (v : α) (k : α → Option β) : xsBd (some v) k = k v := rfl
theorem xsBr_T {β : Type} {a b : Option β} : xsBr True a b = a := xsBr_pos trivial
theorem xsBr_F {β : Type} {a b : Option β} : xsBr False a b = b := xsBr_neg (fun h => h)
theorem xsCk_T {β : Type} {a : Option β} : xsCk True a = a := xsCk_pos trivial
/-- a truth as an int -/
noncomputable def puB (c : Prop) : Int32 := @ite _ c (Classical.propDecidable c) 1 0
theorem puB_pos {c : Prop} (h : c) : puB c = 1 := if_pos h
theorem puB_neg {c : Prop} (h : ¬ c) : puB c = 0 := if_neg h
theorem puB_0 {c : Prop} : puB c = 0 ↔ ¬ c := by
  by_cases h : c
  · rw [puB_pos h]; exact ⟨fun q => absurd q (by decide), fun q => absurd h q⟩
  · rw [puB_neg h]; exact ⟨fun _ => h, fun _ => rfl⟩
theorem puB_n0 {c : Prop} : ¬ puB c = 0 ↔ c := by rw [puB_0]; exact Classical.not_not
theorem puB_iff {c d : Prop} (h : c ↔ d) : puB c = puB d := by rw [propext h]
theorem puB_xsB (c : Prop) : xsB (puB c) := by
  by_cases h : c
  · rw [puB_pos h]; exact xsB_1
  · rw [puB_neg h]; exact xsB_0
theorem xsBr_10 {c : Prop} : xsBr c (some (1 : Int32)) (some (0 : Int32)) = some (puB c) := by
  by_cases h : c
  · rw [xsBr_pos h, puB_pos h]
  · rw [xsBr_neg h, puB_neg h]
theorem xsBr_01 {c : Prop} : xsBr c (some (0 : Int32)) (some (1 : Int32)) = some (puB (¬ c)) := by
  by_cases h : c
  · rw [xsBr_pos h, puB_neg (fun q => q h)]
  · rw [xsBr_neg h, puB_pos h]
theorem xsBr_B0 {c d : Prop} : xsBr c (some (puB d)) (some (0 : Int32)) = some (puB (c ∧ d)) := by
  by_cases h : c
  · rw [xsBr_pos h]; exact congrArg some (puB_iff ⟨fun q => ⟨h, q⟩, fun q => q.2⟩)
  · rw [xsBr_neg h, puB_neg (fun q => h q.1)]
theorem xsBr_0B {c d : Prop} : xsBr c (some (0 : Int32)) (some (puB d)) = some (puB (¬ c ∧ d)) := by
  by_cases h : c
  · rw [xsBr_pos h, puB_neg (fun q => q.1 h)]
  · rw [xsBr_neg h]; exact congrArg some (puB_iff ⟨fun q => ⟨h, q⟩, fun q => q.2⟩)
theorem xsBr_1B {c d : Prop} : xsBr c (some (1 : Int32)) (some (puB d)) = some (puB (c ∨ d)) := by
  by_cases h : c
  · rw [xsBr_pos h, puB_pos (Or.inl h)]
  · rw [xsBr_neg h]; exact congrArg some (puB_iff ⟨Or.inr, fun q => q.resolve_left h⟩)
theorem xsBr_B1 {c d : Prop} : xsBr c (some (puB d)) (some (1 : Int32)) = some (puB (¬ c ∨ d)) := by
  by_cases h : c
  · rw [xsBr_pos h]; exact congrArg some (puB_iff ⟨Or.inr, fun q => q.resolve_left (fun f => f h)⟩)
  · rw [xsBr_neg h, puB_pos (Or.inl h)]
theorem xsBr_not {β : Type} {c : Prop} {a b : Option β} : xsBr (¬ c) a b = xsBr c b a := by
  by_cases h : c
  · rw [xsBr_pos h, xsBr_neg (fun q => q h)]
  · rw [xsBr_neg h, xsBr_pos h]
theorem xsBr_iff {β : Type} {c d : Prop} {a b : Option β} (h : c ↔ d) : xsBr c a b = xsBr d a b := by rw [propext h]
theorem xsBr_same {β : Type} {c : Prop} {a : Option β} : xsBr c a a = a := by
  by_cases h : c
  · rw [xsBr_pos h]
  · rw [xsBr_neg h]
/-- one of two values, by a statement -/
noncomputable def puE {β : Type} (c : Prop) (a b : β) : β := @ite _ c (Classical.propDecidable c) a b
theorem puE_pos {β : Type} {c : Prop} {a b : β} (h : c) : puE c a b = a := if_pos h
theorem puE_neg {β : Type} {c : Prop} {a b : β} (h : ¬ c) : puE c a b = b := if_neg h
theorem xsBr_some {β : Type} {c : Prop} {a b : β} : xsBr c (some a) (some b) = some (puE c a b) := by
  by_cases h : c
  · rw [xsBr_pos h, puE_pos h]
  · rw [xsBr_neg h, puE_neg h]
theorem puE_eq {β : Type} {c : Prop} [Decidable c] {a b : β} : puE c a b = if c then a else b := by
  by_cases h : c
  · rw [puE_pos h, if_pos h]
  · rw [puE_neg h, if_neg h]
theorem puE_fn {α β : Type} (f : α → β) {c : Prop} {a b : α} : puE c (f a) (f b) = f (puE c a b) := by
  by_cases h : c
  · rw [puE_pos h, puE_pos h]
  · rw [puE_neg h, puE_neg h]
/-- what a text gives meets a statement -/
def puOk {β : Type} (o : Option β) (P : β → Prop) : Prop := ∃ v, o = some v ∧ P v
theorem puOk_some {β : Type} {v : β} {P : β → Prop} (h : P v) : puOk (some v) P := ⟨v, rfl, h⟩
theorem puOk_ck {β : Type} {c : Prop} {k : Option β} {P : β → Prop} (h : c) (hk : puOk k P) : puOk (xsCk c k) P := by rw [xsCk_pos h]; exact hk
theorem puOk_br {β : Type} {c : Prop} {a b : Option β} {P : β → Prop} (h1 : c → puOk a P) (h2 : ¬ c → puOk b P) : puOk (xsBr c a b) P := by
  by_cases h : c
  · rw [xsBr_pos h]; exact h1 h
  · rw [xsBr_neg h]; exact h2 h
theorem puOk_bd {α β : Type} {o : Option α} {k : α → Option β} {Q : α → Prop} {P : β → Prop} (h : puOk o Q) (hk : ∀ v, Q v → puOk (k v) P) : puOk (xsBd o k) P := by
  obtain ⟨v, e, q⟩ := h
  rw [xsBd_some e]; exact hk v q
theorem puOk_mono {β : Type} {o : Option β} {P Q : β → Prop} (h : puOk o P) (hk : ∀ v, P v → Q v) : puOk o Q := by
  obtain ⟨v, e, q⟩ := h; exact ⟨v, e, hk v q⟩
/-- a loop that counts: what holds at its head for each count; its way out at the last one, or earlier -/
theorem puFor {σ ρ : Type} {step : σ → Option (σ ⊕ ρ)} (n : Nat) (I : Nat → σ → Prop) (Post : ρ → Prop)
    (h1 : ∀ k s, k < n → I k s → (∃ s', step s = some (.inl s') ∧ I (k + 1) s') ∨ (∃ r, step s = some (.inr r) ∧ Post r))
    (h2 : ∀ s, I n s → ∃ r, step s = some (.inr r) ∧ Post r) : ∀ k s, k ≤ n → I k s → puOk (xsWh step s) Post := by
  have key : ∀ j k s, k + j = n → I k s → puOk (xsWh step s) Post := by
    intro j
    induction j with
    | zero =>
      intro k s e hi
      have e2 : k = n := by omega
      subst e2
      obtain ⟨r, h3, h4⟩ := h2 s hi
      exact ⟨r, xsWh_exit h3, h4⟩
    | succ j ih =>
      intro k s e hi
      rcases h1 k s (by omega) hi with ⟨s', h3, h4⟩ | ⟨r, h3, h4⟩
      · obtain ⟨r, h5, h6⟩ := ih (k + 1) s' (by omega) h4
        exact ⟨r, xsWh_back h3 h5, h6⟩
      · exact ⟨r, xsWh_exit h3, h4⟩
  intro k s hk hi
  exact key (n - k) k s (by omega) hi
/-- the same, with no earlier way out -/
theorem puFor1 {σ ρ : Type} {step : σ → Option (σ ⊕ ρ)} (n : Nat) (I : Nat → σ → Prop) (Post : ρ → Prop) {s0 : σ}
    (h0 : I 0 s0) (h1 : ∀ k s, k < n → I k s → ∃ s', step s = some (.inl s') ∧ I (k + 1) s')
    (h2 : ∀ s, I n s → ∃ r, step s = some (.inr r) ∧ Post r) : puOk (xsWh step s0) Post :=
  puFor n I Post (fun k s hk hi => Or.inl (h1 k s hk hi)) h2 0 s0 (Nat.zero_le _) h0
/-- the same, its states told one by one -/
theorem puForS {σ ρ : Type} {step : σ → Option (σ ⊕ ρ)} (n : Nat) (st : Nat → σ) (r : ρ)
    (h1 : ∀ k, k < n → step (st k) = some (.inl (st (k + 1)))) (h2 : step (st n) = some (.inr r)) : xsWh step (st 0) = some r := by
  obtain ⟨v, e, q⟩ := puFor1 (step := step) n (fun k s => s = st k) (fun v => v = r) (s0 := st 0) rfl (fun k s hk e => ⟨st (k + 1), by rw [e]; exact h1 k hk, rfl⟩) (fun s e => ⟨r, by rw [e]; exact h2, rfl⟩)
  rw [e, q]
theorem puI_s (k : Nat) : puI (k : Int) + puI 1 = puI ((k + 1 : Nat) : Int) := by rw [puI_add]; rfl
theorem puI_0 : (0 : Int32) = puI ((0 : Nat) : Int) := rfl
theorem puI_leN {a b : Nat} (ha : a < 2147483648) (hb : b < 2147483648) : puI (a : Int) ≤ puI (b : Int) ↔ a ≤ b := by
  rw [puI_le (by omega) (by omega) (by omega) (by omega)]; omega
theorem puI_ltN {a b : Nat} (ha : a < 2147483648) (hb : b < 2147483648) : puI (a : Int) < puI (b : Int) ↔ a < b := by
  rw [puI_lt (by omega) (by omega) (by omega) (by omega)]; omega
theorem puI_eqN {a b : Nat} (ha : a < 2147483648) (hb : b < 2147483648) : puI (a : Int) = puI (b : Int) ↔ a = b := by
  rw [puI_eq (by omega) (by omega) (by omega) (by omega)]; omega
/-- products, bounded -/
theorem pu_mb {v w : Int} (B C : Int) (h1 : -B ≤ v) (h2 : v ≤ B) (h3 : -C ≤ w) (h4 : w ≤ C) : -(B * C) ≤ v * w ∧ v * w ≤ B * C := by
  have hB : 0 ≤ B := by omega
  have hC : 0 ≤ C := by omega
  obtain ⟨b, rfl⟩ := Int.eq_ofNat_of_zero_le hB
  obtain ⟨c, rfl⟩ := Int.eq_ofNat_of_zero_le hC
  have g := xs_mulB (B := b) (C := c) h1 h2 h3 h4
  rw [Int.natCast_mul] at g
  exact g
theorem puI_clL (n : Nat) (h : n < 2147483648) : (puI (OfNat.ofNat n : Int)).toNatClampNeg = (OfNat.ofNat n : Nat) := puI_clN h
theorem puB_0p {c : Prop} : puB c = puI 0 ↔ ¬ c := puB_0
theorem puB_1p {c : Prop} : puB c = puI 1 ↔ c := by
  by_cases h : c
  · rw [puB_pos h]; exact ⟨fun _ => h, fun _ => rfl⟩
  · rw [puB_neg h]; exact ⟨fun q => absurd q (by decide), fun q => absurd q h⟩
theorem xsBr_10p {c : Prop} : xsBr c (some (puI 1)) (some (puI 0)) = some (puB c) := xsBr_10
theorem xsBr_01p {c : Prop} : xsBr c (some (puI 0)) (some (puI 1)) = some (puB (¬ c)) := xsBr_01
theorem xsBr_B0p {c d : Prop} : xsBr c (some (puB d)) (some (puI 0)) = some (puB (c ∧ d)) := xsBr_B0
theorem xsBr_0Bp {c d : Prop} : xsBr c (some (puI 0)) (some (puB d)) = some (puB (¬ c ∧ d)) := xsBr_0B
theorem xsBr_1Bp {c d : Prop} : xsBr c (some (puI 1)) (some (puB d)) = some (puB (c ∨ d)) := xsBr_1B
theorem xsBr_B1p {c d : Prop} : xsBr c (some (puB d)) (some (puI 1)) = some (puB (¬ c ∨ d)) := xsBr_B1
