/-! ===== Int32 by its bits: bt x i ===== -/
def bt (x : Int32) (i : Nat) : Bool := x.toBitVec.getLsbD i
theorem b_ext {x y : Int32} (h : ∀ i, i < 32 → bt x i = bt y i) : x = y := Int32.toBitVec_inj.mp (BitVec.eq_of_getLsbD_eq (fun i hi => h i hi))
theorem b_or (x y : Int32) (i : Nat) : bt (x ||| y) i = (bt x i || bt y i) := by unfold bt; rw [Int32.toBitVec_or, BitVec.getLsbD_or]
theorem b_and (x y : Int32) (i : Nat) : bt (x &&& y) i = (bt x i && bt y i) := by unfold bt; rw [Int32.toBitVec_and, BitVec.getLsbD_and]
theorem b_xor (x y : Int32) (i : Nat) : bt (x ^^^ y) i = (bt x i ^^ bt y i) := by unfold bt; rw [Int32.toBitVec_xor, BitVec.getLsbD_xor]
theorem b_big {x : Int32} {i : Nat} (h : 32 ≤ i) : bt x i = false := BitVec.getLsbD_of_ge _ _ h
theorem b_255 (i : Nat) : bt 255 i = decide (i < 8) := by
  rcases Nat.lt_or_ge i 32 with h | h
  · exact (by decide +kernel : ∀ i, i < 32 → bt 255 i = decide (i < 8)) i h
  · rw [b_big h, decide_eq_false (by omega)]
theorem b_65535 (i : Nat) : bt 65535 i = decide (i < 16) := by
  rcases Nat.lt_or_ge i 32 with h | h
  · exact (by decide +kernel : ∀ i, i < 32 → bt 65535 i = decide (i < 16)) i h
  · rw [b_big h, decide_eq_false (by omega)]
theorem b_m1 : ∀ i, i < 32 → bt (-1) i = true := by decide +kernel
theorem b_0 (i : Nat) : bt 0 i = false := BitVec.getLsbD_zero
theorem s_l : ∀ n, n < 32 → ((nI n &&& 31).toBitVec.smod 32).toNat = n := by decide +kernel
theorem s_u : ∀ n, n < 32 → (((nI n).toUInt32 &&& Int32.toUInt32 31).toBitVec % 32).toNat = n := by decide +kernel
theorem b_shl (n : Nat) (hn : n < 32) (x : Int32) {i : Nat} (hi : i < 32) : bt (x <<< (nI n &&& 31)) i = (decide (n ≤ i) && bt x (i - n)) := by
  unfold bt
  rw [Int32.toBitVec_shiftLeft]
  show (x.toBitVec <<< ((nI n &&& 31).toBitVec.smod 32).toNat).getLsbD i = _
  rw [s_l n hn, BitVec.getLsbD_shiftLeft]
  rcases Nat.lt_or_ge i n with h | h
  · simp [h, Nat.not_le.mpr h]
  · simp [hi, h, Nat.not_lt.mpr h]
theorem b_ushr (n : Nat) (hn : n < 32) (x : Int32) (i : Nat) : bt ((x.toUInt32 >>> ((nI n).toUInt32 &&& Int32.toUInt32 31)).toInt32) i = bt x (n + i) := by
  show (x.toUInt32 >>> ((nI n).toUInt32 &&& Int32.toUInt32 31)).toBitVec.getLsbD i = x.toUInt32.toBitVec.getLsbD (n + i)
  rw [UInt32.toBitVec_shiftRight]
  show (x.toUInt32.toBitVec >>> (((nI n).toUInt32 &&& Int32.toUInt32 31).toBitVec % 32).toNat).getLsbD i = _
  rw [s_u n hn, BitVec.getLsbD_ushiftRight]
theorem b_sshr (n : Nat) (hn : n < 32) (x : Int32) {i : Nat} (hi : i < 32) : bt (x >>> (nI n &&& 31)) i = if n + i < 32 then bt x (n + i) else bt x 31 := by
  unfold bt
  rw [Int32.toBitVec_shiftRight]
  show (x.toBitVec.sshiftRight ((nI n &&& 31).toBitVec.smod 32).toNat).getLsbD i = _
  rw [s_l n hn, BitVec.getLsbD_sshiftRight, BitVec.msb_eq_getLsbD_last]
  simp [hi]
theorem b_shl8 (x : Int32) {i : Nat} (hi : i < 32) : bt (x <<< ((8 : Int32) &&& 31)) i = (decide (8 ≤ i) && bt x (i - 8)) := b_shl 8 (by omega) x hi
theorem b_shl16 (x : Int32) {i : Nat} (hi : i < 32) : bt (x <<< ((16 : Int32) &&& 31)) i = (decide (16 ≤ i) && bt x (i - 16)) := b_shl 16 (by omega) x hi
theorem b_shl24 (x : Int32) {i : Nat} (hi : i < 32) : bt (x <<< ((24 : Int32) &&& 31)) i = (decide (24 ≤ i) && bt x (i - 24)) := b_shl 24 (by omega) x hi
theorem b_sshr8 (x : Int32) {i : Nat} (hi : i < 32) : bt (x >>> ((8 : Int32) &&& 31)) i = if 8 + i < 32 then bt x (8 + i) else bt x 31 := b_sshr 8 (by omega) x hi
/-! ===== drawers: more things than places ===== -/
theorem fb_holes : ∀ (m n : Nat) (f : Nat → Nat), (∀ i, i < n → f i < m) → (∀ i j, i < j → j < n → f i ≠ f j) → n ≤ m := by
  intro m
  induction m with
  | zero =>
    intro n f h1 _
    rcases Nat.eq_zero_or_pos n with h | h
    · omega
    · exact absurd (h1 0 h) (Nat.not_lt_zero _)
  | succ m ih =>
    intro n f h1 h2
    by_cases hx : ∃ i, i < n ∧ f i = m
    · obtain ⟨a, ha, hfa⟩ := hx
      have hg := ih (n - 1) (fun i => if i < a then f i else f (i + 1)) (by
        intro i hi
        by_cases q : i < a
        · simp only [if_pos q]
          have b1 := h1 i (by omega)
          have b2 := h2 i a q ha
          omega
        · simp only [if_neg q]
          have b1 := h1 (i + 1) (by omega)
          have b2 := h2 a (i + 1) (by omega) (by omega)
          omega) (by
        intro i j hij hj
        by_cases q : i < a
        · by_cases r : j < a
          · simp only [if_pos q, if_pos r]
            exact h2 i j hij (by omega)
          · simp only [if_pos q, if_neg r]
            exact h2 i (j + 1) (by omega) (by omega)
        · have r : ¬ j < a := by omega
          simp only [if_neg q, if_neg r]
          exact h2 (i + 1) (j + 1) (by omega) (by omega))
      omega
    · have hg := ih n f (fun i hi => by
        have b1 := h1 i hi
        have b2 : f i ≠ m := fun e => hx ⟨i, hi, e⟩
        omega) h2
      omega
/-- two of them in one place -/
theorem fb_twice {m n : Nat} {f : Nat → Nat} (h : ∀ i, i < n → f i < m) (hm : m < n) : ∃ i j, i < j ∧ j < n ∧ f i = f j := by
  refine Classical.byContradiction fun hx => ?_
  have := fb_holes m n f h (fun i j hij hj e => hx ⟨i, j, hij, hj, e⟩)
  omega
/-- as many as places, none twice: each place is taken -/
theorem fb_onto {n : Nat} {f : Nat → Nat} (h : ∀ i, i < n → f i < n) (h2 : ∀ i j, i < j → j < n → f i ≠ f j) {y : Nat} (hy : y < n) : ∃ i, i < n ∧ f i = y := by
  refine Classical.byContradiction fun hx => ?_
  have hne : ∀ i, i < n → f i ≠ y := fun i hi e => hx ⟨i, hi, e⟩
  have := fb_holes (n - 1) n (fun i => if f i < y then f i else f i - 1) (by
    intro i hi
    have b1 := h i hi
    have b2 := hne i hi
    by_cases q : f i < y
    · simp only [if_pos q]; omega
    · simp only [if_neg q]; omega) (by
    intro i j hij hj
    have b1 := hne i (by omega)
    have b2 := hne j hj
    have b3 := h2 i j hij hj
    by_cases q : f i < y
    · by_cases r : f j < y
      · simp only [if_pos q, if_pos r]; exact b3
      · simp only [if_pos q, if_neg r]; omega
    · by_cases r : f j < y
      · simp only [if_neg q, if_pos r]; omega
      · simp only [if_neg q, if_neg r]; omega)
  omega
/-! ===== how many places have a property ===== -/
def fb_ct (p : Nat → Bool) : Nat → Nat
  | 0 => 0
  | n + 1 => fb_ct p n + (if p n then 1 else 0)
theorem fb_ct_succ (p : Nat → Bool) (n : Nat) : fb_ct p (n + 1) = fb_ct p n + (if p n then 1 else 0) := rfl
theorem fb_ct_le (p : Nat → Bool) : ∀ n, fb_ct p n ≤ n
  | 0 => Nat.le_refl _
  | n + 1 => by
    have h := fb_ct_le p n
    rw [fb_ct_succ]
    split <;> omega
theorem fb_ct_step (p : Nat → Bool) (m : Nat) : ∀ n, fb_ct p m ≤ fb_ct p (m + n)
  | 0 => Nat.le_refl _
  | n + 1 => by
    have h := fb_ct_step p m n
    show fb_ct p m ≤ fb_ct p (m + n + 1)
    rw [fb_ct_succ]
    omega
theorem fb_ct_mono (p : Nat → Bool) {m n : Nat} (h : m ≤ n) : fb_ct p m ≤ fb_ct p n := by
  have := fb_ct_step p m (n - m)
  rwa [Nat.add_sub_cancel' h] at this
theorem fb_ct_cong {p q : Nat → Bool} : ∀ {n : Nat}, (∀ k, k < n → p k = q k) → fb_ct p n = fb_ct q n
  | 0, _ => rfl
  | n + 1, h => by
    rw [fb_ct_succ, fb_ct_succ, fb_ct_cong (fun k hk => h k (by omega)), h n (by omega)]
/-- one place changed -/
theorem fb_ct_out (p : Nat → Bool) (b : Bool) {i n : Nat} (h : n ≤ i) : fb_ct (fun k => if k = i then b else p k) n = fb_ct p n :=
  fb_ct_cong fun k hk => if_neg (by omega)
theorem fb_ct_upd (p : Nat → Bool) (b : Bool) {i : Nat} : ∀ {n : Nat}, i < n → fb_ct (fun k => if k = i then b else p k) n + (if p i then 1 else 0) = fb_ct p n + (if b then 1 else 0)
  | 0, h => absurd h (Nat.not_lt_zero i)
  | n + 1, h => by
    rw [fb_ct_succ, fb_ct_succ]
    rcases Nat.lt_or_ge i n with q | q
    · have := fb_ct_upd p b q
      have e : (if n = i then b else p n) = p n := if_neg (by omega)
      rw [e]
      omega
    · have e : i = n := by omega
      subst e
      rw [fb_ct_out p b (Nat.le_refl _)]
      simp only [if_true]
      omega
theorem fb_ct_sub {p q : Nat → Bool} : ∀ {n : Nat}, (∀ k, k < n → p k = true → q k = true) → fb_ct p n ≤ fb_ct q n
  | 0, _ => Nat.le_refl _
  | n + 1, h => by
    have h1 := fb_ct_sub (n := n) (p := p) (q := q) (fun k hk => h k (by omega))
    have h2 := h n (by omega)
    rw [fb_ct_succ, fb_ct_succ]
    cases hp : p n <;> cases hq : q n <;> simp_all <;> omega
theorem fb_ct_or {p q : Nat → Bool} : ∀ {n : Nat}, (∀ k, k < n → ¬ (p k = true ∧ q k = true)) → fb_ct (fun k => p k || q k) n = fb_ct p n + fb_ct q n
  | 0, _ => rfl
  | n + 1, h => by
    have h1 := fb_ct_or (n := n) (p := p) (q := q) (fun k hk => h k (by omega))
    have h2 := h n (by omega)
    rw [fb_ct_succ, fb_ct_succ, fb_ct_succ, h1]
    cases hp : p n <;> cases hq : q n <;> simp_all <;> omega
theorem fb_ct_not (p : Nat → Bool) : ∀ n, fb_ct p n + fb_ct (fun k => !p k) n = n
  | 0 => rfl
  | n + 1 => by
    have h := fb_ct_not p n
    rw [fb_ct_succ, fb_ct_succ]
    cases p n <;> simp <;> omega
theorem fb_ct_split (p : Nat → Bool) (m : Nat) : ∀ n, fb_ct p (m + n) = fb_ct p m + fb_ct (fun k => p (m + k)) n
  | 0 => rfl
  | n + 1 => by
    have h := fb_ct_split p m n
    show fb_ct p (m + n + 1) = _
    rw [fb_ct_succ, fb_ct_succ, h, Nat.add_assoc]
theorem fb_ct_zero {p : Nat → Bool} : ∀ {n : Nat}, fb_ct p n = 0 ↔ ∀ k, k < n → p k = false
  | 0 => ⟨fun _ k hk => absurd hk (Nat.not_lt_zero k), fun _ => rfl⟩
  | n + 1 => by
    have h := fb_ct_zero (p := p) (n := n)
    rw [fb_ct_succ]
    constructor
    · intro e k hk
      have e1 : fb_ct p n = 0 := by omega
      rcases Nat.lt_or_ge k n with q | q
      · exact h.mp e1 k q
      · have ek : k = n := by omega
        subst ek
        cases hp : p k
        · rfl
        · simp [hp] at e
    · intro a
      rw [h.mpr (fun k hk => a k (by omega)), a n (by omega)]
      rfl
theorem fb_ct_pos {p : Nat → Bool} {n : Nat} : 0 < fb_ct p n ↔ ∃ k, k < n ∧ p k = true := by
  constructor
  · intro h
    refine Classical.byContradiction fun hx => ?_
    have := fb_ct_zero.mpr (fun k hk => by
      cases hp : p k
      · rfl
      · exact absurd ⟨k, hk, hp⟩ hx : ∀ k, k < n → p k = false)
    omega
  · rintro ⟨k, hk, hp⟩
    rcases Nat.eq_zero_or_pos (fb_ct p n) with e | e
    · have := fb_ct_zero.mp e k hk
      rw [this] at hp
      cases hp
    · exact e
theorem fb_ct_all {p : Nat → Bool} {n : Nat} : fb_ct p n = n ↔ ∀ k, k < n → p k = true := by
  have h := fb_ct_not p n
  constructor
  · intro e k hk
    have z : fb_ct (fun k => !p k) n = 0 := by omega
    have := fb_ct_zero.mp z k hk
    cases hp : p k
    · simp [hp] at this
    · rfl
  · intro a
    have z : fb_ct (fun k => !p k) n = 0 := fb_ct_zero.mpr (fun k hk => by simp [a k hk])
    omega
/-- the k-th place with the property -/
theorem fb_ct_kth {p : Nat → Bool} {k : Nat} : ∀ {n : Nat}, k < fb_ct p n → ∃ i, i < n ∧ p i = true ∧ fb_ct p i = k
  | 0, h => absurd h (Nat.not_lt_zero k)
  | n + 1, h => by
    rcases Nat.lt_or_ge k (fb_ct p n) with q | q
    · obtain ⟨i, h1, h2⟩ := fb_ct_kth q
      exact ⟨i, by omega, h2⟩
    · rw [fb_ct_succ] at h
      cases hp : p n
      · simp [hp] at h; omega
      · simp [hp] at h
        exact ⟨n, by omega, hp, by omega⟩
theorem fb_ct_kth_one {p : Nat → Bool} {i j : Nat} (hi : p i = true) (hj : p j = true) (e : fb_ct p i = fb_ct p j) : i = j := by
  have key : ∀ a b : Nat, a < b → p a = true → fb_ct p a < fb_ct p b := by
    intro a b hab ha
    have h := fb_ct_mono p (show a + 1 ≤ b from hab)
    rw [fb_ct_succ, ha] at h
    simp at h
    omega
  rcases Nat.lt_trichotomy i j with q | q | q
  · have := key i j q hi; omega
  · exact q
  · have := key j i q hj; omega
/-! ===== sums over a range: one place changed, parts, bounds ===== -/
def fb_sm (f : Nat → Nat) : Nat → Nat
  | 0 => 0
  | n + 1 => fb_sm f n + f n
theorem fb_sm_succ (f : Nat → Nat) (n : Nat) : fb_sm f (n + 1) = fb_sm f n + f n := rfl
theorem fb_sm_cong {f g : Nat → Nat} : ∀ {n : Nat}, (∀ k, k < n → f k = g k) → fb_sm f n = fb_sm g n
  | 0, _ => rfl
  | n + 1, h => by rw [fb_sm_succ, fb_sm_succ, fb_sm_cong (fun k hk => h k (by omega)), h n (by omega)]
theorem fb_sm_out (f : Nat → Nat) (v : Nat) {i n : Nat} (h : n ≤ i) : fb_sm (fun k => if k = i then v else f k) n = fb_sm f n :=
  fb_sm_cong fun k hk => if_neg (by omega)
theorem fb_sm_upd (f : Nat → Nat) (v : Nat) {i : Nat} : ∀ {n : Nat}, i < n → fb_sm (fun k => if k = i then v else f k) n + f i = fb_sm f n + v
  | 0, h => absurd h (Nat.not_lt_zero i)
  | n + 1, h => by
    rw [fb_sm_succ, fb_sm_succ]
    rcases Nat.lt_or_ge i n with q | q
    · have := fb_sm_upd f v q
      have e : (if n = i then v else f n) = f n := if_neg (by omega)
      rw [e]
      omega
    · have e : i = n := by omega
      subst e
      rw [fb_sm_out f v (Nat.le_refl _)]
      simp only [if_true]
      omega
theorem fb_sm_add (f g : Nat → Nat) : ∀ n, fb_sm (fun k => f k + g k) n = fb_sm f n + fb_sm g n
  | 0 => rfl
  | n + 1 => by
    have h := fb_sm_add f g n
    rw [fb_sm_succ, fb_sm_succ, fb_sm_succ, h]
    omega
theorem fb_sm_le {f g : Nat → Nat} : ∀ {n : Nat}, (∀ k, k < n → f k ≤ g k) → fb_sm f n ≤ fb_sm g n
  | 0, _ => Nat.le_refl _
  | n + 1, h => by
    have h1 := fb_sm_le (n := n) (f := f) (g := g) (fun k hk => h k (by omega))
    have h2 := h n (by omega)
    rw [fb_sm_succ, fb_sm_succ]
    omega
theorem fb_sm_const (c : Nat) : ∀ n, fb_sm (fun _ => c) n = n * c
  | 0 => by rw [Nat.zero_mul]; rfl
  | n + 1 => by rw [fb_sm_succ, fb_sm_const c n, Nat.succ_mul]
theorem fb_sm_bound {f : Nat → Nat} {c n : Nat} (h : ∀ k, k < n → f k ≤ c) : fb_sm f n ≤ n * c := by
  rw [← fb_sm_const c n]
  exact fb_sm_le h
theorem fb_sm_mono (f : Nat → Nat) (m : Nat) : ∀ n, fb_sm f m ≤ fb_sm f (m + n)
  | 0 => Nat.le_refl _
  | n + 1 => by
    have h := fb_sm_mono f m n
    show fb_sm f m ≤ fb_sm f (m + n + 1)
    rw [fb_sm_succ]
    omega
theorem fb_sm_part (f : Nat → Nat) {i n : Nat} (h : i < n) : fb_sm f i + f i ≤ fb_sm f n := by
  have := fb_sm_mono f (i + 1) (n - (i + 1))
  rw [fb_sm_succ, show i + 1 + (n - (i + 1)) = n by omega] at this
  exact this
theorem fb_sm_split (f : Nat → Nat) (m : Nat) : ∀ n, fb_sm f (m + n) = fb_sm f m + fb_sm (fun k => f (m + k)) n
  | 0 => rfl
  | n + 1 => by
    have h := fb_sm_split f m n
    show fb_sm f (m + n + 1) = _
    rw [fb_sm_succ, fb_sm_succ, h, Nat.add_assoc]
theorem fb_sm_zero {f : Nat → Nat} {n : Nat} (h : fb_sm f n = 0) : ∀ k, k < n → f k = 0 := fun k hk => by
  have := fb_sm_part f hk
  omega
/-- the same over whole numbers -/
def fb_si (f : Nat → Int) : Nat → Int
  | 0 => 0
  | n + 1 => fb_si f n + f n
theorem fb_si_succ (f : Nat → Int) (n : Nat) : fb_si f (n + 1) = fb_si f n + f n := rfl
theorem fb_si_cong {f g : Nat → Int} : ∀ {n : Nat}, (∀ k, k < n → f k = g k) → fb_si f n = fb_si g n
  | 0, _ => rfl
  | n + 1, h => by rw [fb_si_succ, fb_si_succ, fb_si_cong (fun k hk => h k (by omega)), h n (by omega)]
theorem fb_si_out (f : Nat → Int) (v : Int) {i n : Nat} (h : n ≤ i) : fb_si (fun k => if k = i then v else f k) n = fb_si f n :=
  fb_si_cong fun k hk => if_neg (by omega)
theorem fb_si_upd (f : Nat → Int) (v : Int) {i : Nat} : ∀ {n : Nat}, i < n → fb_si (fun k => if k = i then v else f k) n = fb_si f n - f i + v
  | 0, h => absurd h (Nat.not_lt_zero i)
  | n + 1, h => by
    rw [fb_si_succ, fb_si_succ]
    rcases Nat.lt_or_ge i n with q | q
    · have := fb_si_upd f v q
      have e : (if n = i then v else f n) = f n := if_neg (by omega)
      rw [e]
      omega
    · have e : i = n := by omega
      subst e
      rw [fb_si_out f v (Nat.le_refl _)]
      simp only [if_true]
      omega
theorem fb_si_add (f g : Nat → Int) : ∀ n, fb_si (fun k => f k + g k) n = fb_si f n + fb_si g n
  | 0 => rfl
  | n + 1 => by
    have h := fb_si_add f g n
    rw [fb_si_succ, fb_si_succ, fb_si_succ, h]
    omega
theorem fb_si_sub (f g : Nat → Int) : ∀ n, fb_si (fun k => f k - g k) n = fb_si f n - fb_si g n
  | 0 => rfl
  | n + 1 => by
    have h := fb_si_sub f g n
    rw [fb_si_succ, fb_si_succ, fb_si_succ, h]
    omega
theorem fb_si_mul (c : Int) (f : Nat → Int) : ∀ n, fb_si (fun k => c * f k) n = c * fb_si f n
  | 0 => (Int.mul_zero c).symm
  | n + 1 => by
    have h := fb_si_mul c f n
    rw [fb_si_succ, fb_si_succ, h, Int.mul_add]
theorem fb_si_split (f : Nat → Int) (m : Nat) : ∀ n, fb_si f (m + n) = fb_si f m + fb_si (fun k => f (m + k)) n
  | 0 => (Int.add_zero _).symm
  | n + 1 => by
    have h := fb_si_split f m n
    show fb_si f (m + n + 1) = _
    rw [fb_si_succ, fb_si_succ, h, Int.add_assoc]
theorem fb_si_nat (f : Nat → Nat) : ∀ n, fb_si (fun k => (f k : Int)) n = (fb_sm f n : Int)
  | 0 => rfl
  | n + 1 => by
    have h := fb_si_nat f n
    rw [fb_si_succ, fb_sm_succ, h]
    omega
theorem fb_si_bound {f : Nat → Int} {c : Int} (hc : 0 ≤ c) : ∀ {n : Nat}, (∀ k, k < n → -c ≤ f k ∧ f k ≤ c) → -(n * c) ≤ fb_si f n ∧ fb_si f n ≤ n * c
  | 0, _ => by simp [fb_si]
  | n + 1, h => by
    have h1 := fb_si_bound (n := n) (f := f) hc (fun k hk => h k (by omega))
    have h2 := h n (by omega)
    have e : ((n + 1 : Nat) : Int) * c = n * c + c := by rw [Int.natCast_add, Int.add_mul]; simp
    rw [fb_si_succ, e]
    omega
/-! PURE: sets as bits, how many -/
theorem pu_b1 : ∀ i, i < 32 → bt 1 i = decide (i = 0) := by decide +kernel
theorem pu_bs {s i : Nat} (hs : s < 32) (hi : i < 32) : bt ((1 : Int32) <<< (puI (s : Int) &&& 31)) i = decide (i = s) := by
  rw [← puI_nI, b_shl s hs 1 hi]
  by_cases h : s ≤ i
  · rw [pu_b1 (i - s) (by omega), decide_eq_true h]
    by_cases e : i = s
    · subst e; simp
    · rw [decide_eq_false e, decide_eq_false (by omega)]; rfl
  · rw [decide_eq_false h, decide_eq_false (by omega)]; rfl
theorem ts_nf2 {x : Bool} (h : ¬ x = true) : x = false := by cases x <;> first | rfl | exact absurd rfl h
theorem pu_sh1 {x : Int32} {s : Nat} (hs : s < 32) : (x >>> (puI (s : Int) &&& 31)) &&& (1 : Int32) = if bt x s = true then 1 else 0 := by
  apply b_ext
  intro i hi
  rw [b_and, pu_b1 i hi, ← puI_nI, b_sshr s hs x hi]
  by_cases e : i = 0
  · subst e
    rw [if_pos (by omega), Nat.add_zero]
    by_cases h : bt x s = true
    · rw [if_pos h, h, pu_b1 0 (by omega)]; rfl
    · rw [if_neg h, ts_nf2 h, b_0]; rfl
  · rw [decide_eq_false e, Bool.and_false]
    by_cases h : bt x s = true
    · rw [if_pos h, pu_b1 i hi, decide_eq_false e]
    · rw [if_neg h, b_0]
theorem pu_has (x : Int32) {s : Nat} (hs : s < 32) : fX10_has x (puI (s : Int)) = some (puB (bt x s = true)) := by
  unfold fX10_has
  rw [pu_sh1 hs, xsBr_01]
  by_cases h : bt x s = true
  · rw [if_pos h, puB_pos h, puB_pos (by decide)]
  · rw [if_neg h, puB_neg h, puB_neg (fun q => q rfl)]
theorem pu_holds (x : Int32) {s : Nat} (hs : s < 32) : fX11_holds x (puI (s : Int)) = some (puB (bt x s = true)) := by
  unfold fX11_holds
  rw [pu_sh1 hs, xsBr_10]
  by_cases h : bt x s = true
  · rw [if_pos h, puB_pos h, puB_pos (by decide)]
  · rw [if_neg h, puB_neg h, puB_neg (by decide)]
/-- the bits of an int, by a statement -/
def puSt (x : Int32) (P : Nat → Prop) : Prop := ∀ i, i < 32 → (bt x i = true ↔ P i)
theorem puSt_ext {x y : Int32} {P Q : Nat → Prop} (h1 : puSt x P) (h2 : puSt y Q) (h : ∀ i, i < 32 → (P i ↔ Q i)) : x = y := by
  apply b_ext
  intro i hi
  have a := h1 i hi; have b := h2 i hi; have c := h i hi
  cases e1 : bt x i <;> cases e2 : bt y i <;> simp_all
theorem puSt_eq {x y : Int32} {P : Nat → Prop} (h1 : puSt x P) (h2 : puSt y P) : x = y := puSt_ext h1 h2 (fun _ _ => Iff.rfl)
theorem puSt_c {x : Int32} {P Q : Nat → Prop} (h : puSt x P) (e : ∀ i, i < 32 → (P i ↔ Q i)) : puSt x Q := fun i hi => (h i hi).trans (e i hi)
theorem puSt_0 : puSt 0 (fun _ => False) := fun i _ => by rw [b_0]; exact ⟨fun h => (by cases h), fun h => h.elim⟩
theorem puSt_or {x y : Int32} {P Q : Nat → Prop} (h1 : puSt x P) (h2 : puSt y Q) : puSt (x ||| y) (fun i => P i ∨ Q i) := fun i hi => by
  rw [b_or, Bool.or_eq_true, h1 i hi, h2 i hi]
theorem puSt_and {x y : Int32} {P Q : Nat → Prop} (h1 : puSt x P) (h2 : puSt y Q) : puSt (x &&& y) (fun i => P i ∧ Q i) := fun i hi => by
  rw [b_and, Bool.and_eq_true, h1 i hi, h2 i hi]
theorem puSt_not {y : Int32} {Q : Nat → Prop} (h2 : puSt y Q) : puSt (y ^^^ (-1 : Int32)) (fun i => ¬ Q i) := fun i hi => by
  rw [b_xor, b_m1 i hi]
  have := h2 i hi
  cases e : bt y i <;> simp_all
theorem puSt_1 {s : Nat} (hs : s < 32) : puSt ((1 : Int32) <<< (puI (s : Int) &&& 31)) (fun i => i = s) := fun i hi => by
  rw [pu_bs hs hi]; exact decide_eq_true_iff
theorem puSt_self (x : Int32) : puSt x (fun i => bt x i = true) := fun _ _ => Iff.rfl
theorem puSt_z {x : Int32} {P : Nat → Prop} (h : puSt x P) : x = 0 ↔ ∀ i, i < 32 → ¬ P i := by
  constructor
  · rintro rfl i hi hp
    have := (h i hi).mpr hp
    rw [b_0] at this; cases this
  · intro h2
    exact puSt_ext h puSt_0 (fun i hi => ⟨fun q => h2 i hi q, fun q => q.elim⟩)
/-- how many numbers below n have a property -/
noncomputable def puDe (p : Prop) : Bool := @decide p (Classical.propDecidable p)
theorem puDe_t {p : Prop} : puDe p = true ↔ p := @decide_eq_true_iff p (Classical.propDecidable p)
theorem puDe_f {p : Prop} : puDe p = false ↔ ¬ p := ⟨fun h q => (by rw [puDe_t.mpr q] at h; cases h), fun h => ts_nf2 (fun q => h (puDe_t.mp q))⟩
theorem puDe_c {p q : Prop} (h : p ↔ q) : puDe p = puDe q := by rw [propext h]
noncomputable def puN (P : Nat → Prop) (n : Nat) : Nat := fb_ct (fun k => puDe (P k)) n
theorem puN_0 (P : Nat → Prop) : puN P 0 = 0 := rfl
theorem puN_s (P : Nat → Prop) (n : Nat) : puN P (n + 1) = puN P n + puE (P n) 1 0 := by
  unfold puN puE
  rw [fb_ct_succ]
  by_cases h : P n
  · rw [if_pos (puDe_t.mpr h), if_pos h]
  · rw [if_neg (fun q => h (puDe_t.mp q)), if_neg h]
theorem puN_le (P : Nat → Prop) (n : Nat) : puN P n ≤ n := fb_ct_le _ n
theorem puN_c {P Q : Nat → Prop} {n : Nat} (h : ∀ k, k < n → (P k ↔ Q k)) : puN P n = puN Q n := by
  unfold puN
  exact fb_ct_cong (fun k hk => puDe_c (h k hk))
theorem puN_sub {P Q : Nat → Prop} {n : Nat} (h : ∀ k, k < n → P k → Q k) : puN P n ≤ puN Q n := by
  unfold puN
  exact fb_ct_sub (fun k hk q => puDe_t.mpr (h k hk (puDe_t.mp q)))
theorem puN_z {P : Nat → Prop} {n : Nat} : puN P n = 0 ↔ ∀ k, k < n → ¬ P k := by
  unfold puN
  rw [fb_ct_zero]
  simp only [puDe_f]
theorem puN_pos {P : Nat → Prop} {n : Nat} : 0 < puN P n ↔ ∃ k, k < n ∧ P k := by
  unfold puN
  rw [fb_ct_pos]
  simp only [puDe_t]
theorem puN_out {P : Nat → Prop} {m n : Nat} (h : m ≤ n) (hp : ∀ k, m ≤ k → k < n → ¬ P k) : puN P n = puN P m := by
  induction n with
  | zero => rw [show m = 0 by omega]
  | succ n ih =>
    by_cases e : m = n + 1
    · rw [e]
    · rw [puN_s, puE_neg (hp n (by omega) (by omega)), ih (by omega) (fun k h1 h2 => hp k h1 (by omega)), Nat.add_zero]
theorem puN_one {P : Nat → Prop} {i n : Nat} (hi : i < n) (h : ∀ k, k < n → (P k ↔ k = i)) : puN P n = 1 := by
  rw [puN_c h]
  have a : puN (fun k => k = i) (i + 1) = 1 := by
    rw [puN_s, puE_pos rfl, puN_z.mpr (fun k hk => by omega)]
  rw [puN_out (m := i + 1) (by omega) (fun k h1 h2 => by omega), a]
theorem puN_or {P Q : Nat → Prop} {n : Nat} (h : ∀ k, k < n → ¬ (P k ∧ Q k)) : puN (fun k => P k ∨ Q k) n = puN P n + puN Q n := by
  induction n with
  | zero => rfl
  | succ n ih =>
    rw [puN_s, puN_s, puN_s, ih (fun k hk => h k (by omega))]
    have := h n (by omega)
    by_cases a : P n
    · rw [puE_pos (Or.inl a), puE_pos a, puE_neg (fun q => this ⟨a, q⟩)]
      omega
    · by_cases b : Q n
      · rw [puE_pos (Or.inr b), puE_neg a, puE_pos b]; omega
      · rw [puE_neg (fun q => q.elim a b), puE_neg a, puE_neg b]; omega
theorem puN_split {P Q : Nat → Prop} {n : Nat} : puN P n = puN (fun k => P k ∧ Q k) n + puN (fun k => P k ∧ ¬ Q k) n := by
  rw [← puN_or (fun k _ q => q.2.2 q.1.2)]
  exact puN_c (fun k _ => ⟨fun h => by by_cases q : Q k; exact Or.inl ⟨h, q⟩; exact Or.inr ⟨h, q⟩, fun h => h.elim And.left And.left⟩)
/-! bitCount -/
def pu_u (x : Int32) : Nat := x.toBitVec.toNat
theorem pu_u_lt (x : Int32) : pu_u x < 4294967296 := x.toBitVec.isLt
theorem pu_u_and (x y : Int32) : pu_u (x &&& y) = pu_u x &&& pu_u y := by unfold pu_u; rw [Int32.toBitVec_and, BitVec.toNat_and]
theorem pu_u_add (x y : Int32) : pu_u (x + y) = (pu_u x + pu_u y) % 4294967296 := by unfold pu_u; rw [Int32.toBitVec_add, BitVec.toNat_add]
theorem pu_u_sub (x y : Int32) (h : pu_u y ≤ pu_u x) : pu_u (x - y) = pu_u x - pu_u y := by
  have a := pu_u_lt x; have b := pu_u_lt y
  unfold pu_u at *
  rw [Int32.toBitVec_sub, BitVec.toNat_sub]
  omega
theorem pu_u_ushr (n : Nat) (hn : n < 32) (x : Int32) : pu_u ((x.toUInt32 >>> ((nI n).toUInt32 &&& Int32.toUInt32 31)).toInt32) = pu_u x / 2 ^ n := by
  unfold pu_u
  show (x.toUInt32 >>> ((nI n).toUInt32 &&& Int32.toUInt32 31)).toBitVec.toNat = x.toUInt32.toBitVec.toNat / 2 ^ n
  rw [UInt32.toBitVec_shiftRight]
  show (x.toUInt32.toBitVec >>> (((nI n).toUInt32 &&& Int32.toUInt32 31).toBitVec % 32).toNat).toNat = _
  rw [s_u n hn, BitVec.toNat_ushiftRight, Nat.shiftRight_eq_div_pow]
theorem pu_and_split {a q m M : Nat} (ha : a < 256) (hm : m < 256) : (a + 256 * q) &&& (m + 256 * M) = (a &&& m) + 256 * (q &&& M) := by
  have hc : a &&& m < 256 := Nat.lt_of_le_of_lt Nat.and_le_left ha
  have e1 : ((a + 256 * q) &&& (m + 256 * M)) % 256 = a &&& m := by
    rw [show 256 = 2 ^ 8 by rfl, Nat.and_mod_two_pow, show (2 : Nat) ^ 8 = 256 by rfl, Nat.add_mul_mod_self_left, Nat.add_mul_mod_self_left, Nat.mod_eq_of_lt ha, Nat.mod_eq_of_lt hm]
  have e2 : ((a + 256 * q) &&& (m + 256 * M)) / 256 = q &&& M := by
    rw [show 256 = 2 ^ 8 by rfl, Nat.and_div_two_pow, show (2 : Nat) ^ 8 = 256 by rfl]
    rw [show (a + 256 * q) / 256 = q by omega, show (m + 256 * M) / 256 = M by omega]
  have := Nat.div_add_mod ((a + 256 * q) &&& (m + 256 * M)) 256
  omega
theorem pu_and4 {a b c d m : Nat} (ha : a < 256) (hb : b < 256) (hc : c < 256) (hd : d < 256) (hm : m < 256) : (a + 256 * (b + 256 * (c + 256 * d))) &&& (m + 256 * (m + 256 * (m + 256 * m))) = (a &&& m) + 256 * ((b &&& m) + 256 * ((c &&& m) + 256 * (d &&& m))) := by
  rw [pu_and_split ha hm, pu_and_split hb hm, pu_and_split hc hm]
theorem pu_t1 : ∀ a, a < 256 → ∀ e, e < 2 → (a / 2 + 128 * e) &&& 85 = (a / 2) &&& 85 := by decide +kernel
theorem pu_t1b : ∀ a, a < 256 → ((a / 2) &&& 85) ≤ a := by decide +kernel
theorem pu_t2 : ∀ a, a < 256 → ∀ e, e < 4 → (a / 4 + 64 * e) &&& 51 = (a / 4) &&& 51 := by decide +kernel
def pu_f1 (a : Nat) : Nat := a - ((a / 2) &&& 85)
def pu_f2 (a : Nat) : Nat := (a &&& 51) + ((a / 4) &&& 51)
def pu_f3 (a : Nat) : Nat := a % 16 + a / 16
theorem pu_t3 : ∀ a, a < 256 → pu_f2 a < 256 := by decide +kernel
theorem pu_t4 : ∀ a, a < 256 → pu_f2 (pu_f1 a) % 16 ≤ 4 ∧ pu_f2 (pu_f1 a) / 16 ≤ 4 ∧ pu_f3 (pu_f2 (pu_f1 a)) = fb_ct (fun j => a.testBit j) 8 := by decide +kernel
theorem pu_t5 : ∀ a, a < 256 → ∀ h, h < 16 → (a + 16 * h) &&& 15 = a % 16 ∨ 16 ≤ a := by decide +kernel
theorem pu_t6 : ∀ l, l < 16 → ∀ h, h < 16 → (l + 16 * h) &&& 15 = l := by decide +kernel
theorem pu_t7 : ∀ k : Nat, k &&& 63 = k % 64 := fun k => Nat.and_two_pow_sub_one_eq_mod k 6
theorem pu_byte (X : Nat) (h : X < 4294967296) : ∃ a b c d : Nat, a < 256 ∧ b < 256 ∧ c < 256 ∧ d < 256 ∧ X = a + 256 * (b + 256 * (c + 256 * d)) :=
  ⟨X % 256, X / 256 % 256, X / 65536 % 256, X / 16777216, by omega, by omega, by omega, by omega, by omega⟩
theorem pu_bits_byte {a b : Nat} (ha : a < 256) (j : Nat) (hj : j < 8) : (a + 256 * b).testBit j = a.testBit j := by
  rw [Nat.testBit_eq_decide_div_mod_eq, Nat.testBit_eq_decide_div_mod_eq]
  have e : a + 256 * b = a + 2 ^ j * (2 ^ (8 - j) * b) := by
    rw [← Nat.mul_assoc, ← Nat.pow_add, show j + (8 - j) = 8 by omega]
  rw [e, Nat.add_mul_div_left _ _ (Nat.two_pow_pos j)]
  have e2 : 2 ^ (8 - j) = 2 * 2 ^ (8 - j - 1) := by rw [← Nat.pow_succ', show (8 - j - 1).succ = 8 - j by omega]
  rw [e2, Nat.mul_assoc, Nat.add_mul_mod_self_left]
theorem pu_bits_up {a b : Nat} (ha : a < 256) (j : Nat) : (a + 256 * b).testBit (8 + j) = b.testBit j := by
  rw [Nat.add_comm 8 j, Nat.testBit_add, show (a + 256 * b) / 2 ^ 8 = b by omega]
theorem pu_ct4 {X a b c d : Nat} (ha : a < 256) (hb : b < 256) (hc : c < 256) (hd : d < 256) (e : X = a + 256 * (b + 256 * (c + 256 * d))) : fb_ct (fun j => X.testBit j) 32 = fb_ct (fun j => a.testBit j) 8 + (fb_ct (fun j => b.testBit j) 8 + (fb_ct (fun j => c.testBit j) 8 + fb_ct (fun j => d.testBit j) 8)) := by
  rw [e, show 32 = 8 + (8 + (8 + 8)) by rfl, fb_ct_split, fb_ct_split, fb_ct_split]
  congr 1
  · exact fb_ct_cong (fun k hk => pu_bits_byte ha k hk)
  · congr 1
    · exact fb_ct_cong (fun k hk => by rw [pu_bits_up ha, pu_bits_byte hb k hk])
    · congr 1
      · exact fb_ct_cong (fun k hk => by rw [pu_bits_up ha, pu_bits_up hb, pu_bits_byte hc k hk])
      · exact fb_ct_cong (fun k hk => by rw [pu_bits_up ha, pu_bits_up hb, pu_bits_up hc])
theorem pu_c5 : pu_u (1431655765 : Int32) = 85 + 256 * (85 + 256 * (85 + 256 * 85)) := by decide +kernel
theorem pu_c3 : pu_u (858993459 : Int32) = 51 + 256 * (51 + 256 * (51 + 256 * 51)) := by decide +kernel
theorem pu_cf : pu_u (252645135 : Int32) = 15 + 256 * (15 + 256 * (15 + 256 * 15)) := by decide +kernel
theorem pu_c63 : pu_u (63 : Int32) = 63 := by decide +kernel
theorem pu_dv {a b : Nat} (d e : Nat) (hd : d * e = 256) (he : 0 < d) : (a + 256 * b) / d = a / d + e * (b % d) + 256 * (b / d) := by
  have h1 : a + 256 * b = a + d * (e * b) := by rw [← Nat.mul_assoc, hd]
  rw [h1, Nat.add_mul_div_left _ _ he]
  have h2 := Nat.div_add_mod b d
  have h3 : e * b = e * (d * (b / d)) + e * (b % d) := by rw [← Nat.mul_add, h2]
  have h4 : e * (d * (b / d)) = 256 * (b / d) := by rw [← Nat.mul_assoc, Nat.mul_comm e d, hd]
  omega
theorem pu_dv4 {a b c q : Nat} (d e : Nat) (hd : d * e = 256) (he : 0 < d) : (a + 256 * (b + 256 * (c + 256 * q))) / d = (a / d + e * ((b + 256 * (c + 256 * q)) % d)) + 256 * ((b / d + e * ((c + 256 * q) % d)) + 256 * ((c / d + e * (q % d)) + 256 * (q / d))) := by
  rw [pu_dv d e hd he, pu_dv (a := b) d e hd he, pu_dv (a := c) d e hd he]
theorem pu_md {b q : Nat} (d e : Nat) (hd : d * e = 256) : (b + 256 * q) % d = b % d := by
  rw [show 256 * q = d * (e * q) by rw [← Nat.mul_assoc, hd], Nat.add_mul_mod_self_left]
theorem pu_dv5 {a b c q : Nat} (d e : Nat) (hd : d * e = 256) (he : 0 < d) : (a + 256 * (b + 256 * (c + 256 * q))) / d = (a / d + e * (b % d)) + 256 * ((b / d + e * (c % d)) + 256 * ((c / d + e * (q % d)) + 256 * (q / d + e * 0))) := by
  rw [pu_dv4 d e hd he, pu_md d e hd, pu_md d e hd, Nat.mul_zero, Nat.add_zero]
theorem pu_n16 (a : Nat) : a = a % 16 + 16 * (a / 16) := by omega
theorem pu_st3 {a b c d : Nat} (ha : a < 256) (hb : b < 256) (hc : c < 256) (hd : d < 256) (a1 : a % 16 ≤ 4) (a2 : a / 16 ≤ 4) (b1 : b % 16 ≤ 4) (b2 : b / 16 ≤ 4) (c1 : c % 16 ≤ 4) (c2 : c / 16 ≤ 4) (d1 : d % 16 ≤ 4) (d2 : d / 16 ≤ 4) : (a + 256 * (b + 256 * (c + 256 * d)) + ((a / 16 + 16 * (b % 16)) + 256 * ((b / 16 + 16 * (c % 16)) + 256 * ((c / 16 + 16 * (d % 16)) + 256 * (d / 16 + 16 * 0))))) % 4294967296 = ((a % 16 + a / 16) + 16 * (a / 16 + b % 16)) + 256 * (((b % 16 + b / 16) + 16 * (b / 16 + c % 16)) + 256 * (((c % 16 + c / 16) + 16 * (c / 16 + d % 16)) + 256 * ((d % 16 + d / 16) + 16 * (d / 16)))) := by
  have ea := pu_n16 a; have eb := pu_n16 b; have ec := pu_n16 c; have ed := pu_n16 d
  generalize a % 16 = x0 at *
  generalize a / 16 = x1 at *
  generalize b % 16 = x2 at *
  generalize b / 16 = x3 at *
  generalize c % 16 = x4 at *
  generalize c / 16 = x5 at *
  generalize d % 16 = x6 at *
  generalize d / 16 = x7 at *
  rw [ea, eb, ec, ed, Nat.mod_eq_of_lt (by omega)]
  omega
theorem pu_st4 {a b c d : Nat} (ha : a ≤ 8) (hb : b ≤ 8) (hc : c ≤ 8) (hd : d ≤ 8) : (a + 256 * (b + 256 * (c + 256 * d)) + (a + 256 * (b + 256 * (c + 256 * d))) / 2 ^ 8) % 4294967296 = (a + b) + 256 * ((b + c) + 256 * ((c + d) + 256 * d)) := by
  rw [show (a + 256 * (b + 256 * (c + 256 * d))) / 2 ^ 8 = b + 256 * (c + 256 * d) by omega, Nat.mod_eq_of_lt (by omega)]
  omega
theorem pu_st5 {a b c d : Nat} (ha : a ≤ 8) (hb : b ≤ 8) (hc : c ≤ 8) (hd : d ≤ 8) : ((a + b) + 256 * ((b + c) + 256 * ((c + d) + 256 * d)) + ((a + b) + 256 * ((b + c) + 256 * ((c + d) + 256 * d))) / 2 ^ 16) % 4294967296 % 64 = a + b + c + d := by
  rw [show ((a + b) + 256 * ((b + c) + 256 * ((c + d) + 256 * d))) / 2 ^ 16 = (c + d) + 256 * d by omega, Nat.mod_mod_of_dvd _ (by decide : 64 ∣ 4294967296)]
  omega
theorem pu_st2 {a b c d a' b' c' d' : Nat} (ha : a + a' < 256) (hb : b + b' < 256) (hc : c + c' < 256) (hd : d + d' < 256) : (a + 256 * (b + 256 * (c + 256 * d)) + (a' + 256 * (b' + 256 * (c' + 256 * d')))) % 4294967296 = (a + a') + 256 * ((b + b') + 256 * ((c + c') + 256 * (d + d'))) := by
  rw [Nat.mod_eq_of_lt (by omega)]
  omega
theorem pu_nib {a : Nat} (h : a % 16 ≤ 4) (h2 : a / 16 ≤ 4) : a % 16 + a / 16 ≤ 8 := by omega
theorem pu_bitCount (x : Int32) : fJ6_bitCount_0f7a4 x = some (puI ((fb_ct (bt x) 32 : Nat) : Int)) := by
  unfold fJ6_bitCount_0f7a4
  simp only [xsLt_eq]
  obtain ⟨a, b, c, d, ha, hb, hc, hd, e⟩ := pu_byte (pu_u x) (pu_u_lt x)
  have ect := pu_ct4 ha hb hc hd e
  have k1 : ∀ a, a < 256 → pu_f1 a < 256 := fun a h => by unfold pu_f1; omega
  have p1 := pu_t4 a ha; have p2 := pu_t4 b hb; have p3 := pu_t4 c hc; have p4 := pu_t4 d hd
  -- the first step
  have e1 : pu_u (((x.toUInt32 >>> ((1 : Int32).toUInt32 &&& Int32.toUInt32 31)).toInt32) &&& (1431655765 : Int32)) = ((a / 2) &&& 85) + 256 * (((b / 2) &&& 85) + 256 * (((c / 2) &&& 85) + 256 * ((d / 2) &&& 85))) := by
    rw [pu_u_and, pu_c5]
    have := pu_u_ushr 1 (by omega) x
    rw [show nI 1 = (1 : Int32) by rfl] at this
    rw [this, e, show (2 : Nat) ^ 1 = 2 by rfl, pu_dv5 2 128 rfl (by decide), pu_and4 (by omega) (by omega) (by omega) (by omega) (by omega), pu_t1 a ha _ (by omega), pu_t1 b hb _ (by omega), pu_t1 c hc _ (by omega), pu_t1 d hd _ (by omega)]
  have q1 := pu_t1b a ha; have q2 := pu_t1b b hb; have q3 := pu_t1b c hc; have q4 := pu_t1b d hd
  have e2 := pu_u_sub x (((x.toUInt32 >>> ((1 : Int32).toUInt32 &&& Int32.toUInt32 31)).toInt32) &&& (1431655765 : Int32)) (by rw [e1, e]; omega)
  rw [e1, e] at e2
  generalize x - (((x.toUInt32 >>> ((1 : Int32).toUInt32 &&& Int32.toUInt32 31)).toInt32) &&& (1431655765 : Int32)) = x1 at e2 ⊢
  have e3 : pu_u x1 = pu_f1 a + 256 * (pu_f1 b + 256 * (pu_f1 c + 256 * pu_f1 d)) := by rw [e2]; unfold pu_f1; omega
  clear e2 e1
  have k1a := k1 a ha; have k1b := k1 b hb; have k1c := k1 c hc; have k1d := k1 d hd
  generalize pu_f1 a = a1 at *
  generalize pu_f1 b = b1 at *
  generalize pu_f1 c = c1 at *
  generalize pu_f1 d = d1 at *
  have r1 := pu_t3 a1 k1a; have r2 := pu_t3 b1 k1b; have r3 := pu_t3 c1 k1c; have r4 := pu_t3 d1 k1d
  have e4 : pu_u ((x1 &&& (858993459 : Int32)) + (((x1.toUInt32 >>> ((2 : Int32).toUInt32 &&& Int32.toUInt32 31)).toInt32) &&& (858993459 : Int32))) = pu_f2 a1 + 256 * (pu_f2 b1 + 256 * (pu_f2 c1 + 256 * pu_f2 d1)) := by
    rw [pu_u_add, pu_u_and, pu_u_and, pu_c3]
    have := pu_u_ushr 2 (by omega) x1
    rw [show nI 2 = (2 : Int32) by rfl] at this
    rw [this, e3, show (2 : Nat) ^ 2 = 4 by rfl, pu_dv5 4 64 rfl (by decide), pu_and4 (by omega) (by omega) (by omega) (by omega) (by omega), pu_and4 (by omega) (by omega) (by omega) (by omega) (by omega), pu_t2 a1 k1a _ (by omega), pu_t2 b1 k1b _ (by omega), pu_t2 c1 k1c _ (by omega), pu_t2 d1 k1d _ (by omega)]
    unfold pu_f2 at r1 r2 r3 r4 ⊢
    rw [pu_st2 r1 r2 r3 r4]
  generalize (x1 &&& (858993459 : Int32)) + (((x1.toUInt32 >>> ((2 : Int32).toUInt32 &&& Int32.toUInt32 31)).toInt32) &&& (858993459 : Int32)) = x2 at e4 ⊢
  generalize pu_f2 a1 = a2 at *
  generalize pu_f2 b1 = b2 at *
  generalize pu_f2 c1 = c2 at *
  generalize pu_f2 d1 = d2 at *
  unfold pu_f3 at *
  obtain ⟨p1a, p1b, p1c⟩ := p1; obtain ⟨p2a, p2b, p2c⟩ := p2; obtain ⟨p3a, p3b, p3c⟩ := p3; obtain ⟨p4a, p4b, p4c⟩ := p4
  rw [← p1c, ← p2c, ← p3c, ← p4c] at ect
  clear p1c p2c p3c p4c
  have e5 : pu_u ((x2 + ((x2.toUInt32 >>> ((4 : Int32).toUInt32 &&& Int32.toUInt32 31)).toInt32)) &&& (252645135 : Int32)) = (a2 % 16 + a2 / 16) + 256 * ((b2 % 16 + b2 / 16) + 256 * ((c2 % 16 + c2 / 16) + 256 * (d2 % 16 + d2 / 16))) := by
    rw [pu_u_and, pu_u_add, pu_cf]
    have := pu_u_ushr 4 (by omega) x2
    rw [show nI 4 = (4 : Int32) by rfl] at this
    rw [this, e4, show (2 : Nat) ^ 4 = 16 by rfl, pu_dv5 16 16 rfl (by decide), pu_st3 r1 r2 r3 r4 p1a p1b p2a p2b p3a p3b p4a p4b, pu_and4 (by omega) (by omega) (by omega) (by omega) (by omega), pu_t6 _ (by omega) _ (by omega), pu_t6 _ (by omega) _ (by omega), pu_t6 _ (by omega) _ (by omega), pu_t6 _ (by omega) _ (by omega)]
  generalize (x2 + ((x2.toUInt32 >>> ((4 : Int32).toUInt32 &&& Int32.toUInt32 31)).toInt32)) &&& (252645135 : Int32) = x3 at e5 ⊢
  have ga := pu_nib p1a p1b
  have gb := pu_nib p2a p2b
  have gc := pu_nib p3a p3b
  have gd := pu_nib p4a p4b
  clear p1a p1b p2a p2b p3a p3b p4a p4b
  generalize a2 % 16 + a2 / 16 = a3 at *
  generalize b2 % 16 + b2 / 16 = b3 at *
  generalize c2 % 16 + c2 / 16 = c3 at *
  generalize d2 % 16 + d2 / 16 = d3 at *
  have e6 : pu_u (x3 + ((x3.toUInt32 >>> ((8 : Int32).toUInt32 &&& Int32.toUInt32 31)).toInt32)) = (a3 + b3) + 256 * ((b3 + c3) + 256 * ((c3 + d3) + 256 * d3)) := by
    rw [pu_u_add]
    have := pu_u_ushr 8 (by omega) x3
    rw [show nI 8 = (8 : Int32) by rfl] at this
    rw [this, e5, pu_st4 ga gb gc gd]
  generalize x3 + ((x3.toUInt32 >>> ((8 : Int32).toUInt32 &&& Int32.toUInt32 31)).toInt32) = x4 at e6 ⊢
  have e7 : pu_u ((x4 + ((x4.toUInt32 >>> ((16 : Int32).toUInt32 &&& Int32.toUInt32 31)).toInt32)) &&& (63 : Int32)) = a3 + b3 + c3 + d3 := by
    rw [pu_u_and, pu_u_add, pu_c63]
    have := pu_u_ushr 16 (by omega) x4
    rw [show nI 16 = (16 : Int32) by rfl] at this
    rw [this, e6, pu_t7, pu_st5 ga gb gc gd]
  generalize (x4 + ((x4.toUInt32 >>> ((16 : Int32).toUInt32 &&& Int32.toUInt32 31)).toInt32)) &&& (63 : Int32) = x5 at e7 ⊢
  have e8 : fb_ct (bt x) 32 = a3 + b3 + c3 + d3 := by
    have : fb_ct (bt x) 32 = fb_ct (fun j => (pu_u x).testBit j) 32 := fb_ct_cong (fun k hk => rfl)
    rw [this, ect]; omega
  rw [e8, ← e7]
  congr 1
  apply Int32.toBitVec_inj.mp
  apply BitVec.eq_of_toNat_eq
  show pu_u x5 = pu_u (puI _)
  rw [← puI_nI]
  show pu_u x5 = pu_u x5 % 2 ^ 32
  rw [Nat.mod_eq_of_lt (pu_u_lt x5)]
