/-! whole numbers behind ints and longs: x holds v, which is at most B away from 0 -/
def xsII (x : Int32) (v : Int) (B : Nat) : Prop := x.toInt = v ∧ -(B : Int) ≤ v ∧ v ≤ (B : Int)
def xsIL (x : Int64) (v : Int) (B : Nat) : Prop := x.toInt = v ∧ -(B : Int) ≤ v ∧ v ≤ (B : Int)
theorem xs_bmI {z : Int} (h1 : -2147483648 ≤ z) (h2 : z < 2147483648) : z.bmod (2 ^ 32) = z := by
  rw [Int.bmod_eq_of_le (by omega) (by omega)]
theorem xs_bmL {z : Int} (h1 : -9223372036854775808 ≤ z) (h2 : z < 9223372036854775808) : z.bmod (2 ^ 64) = z := by
  rw [Int.bmod_eq_of_le (by omega) (by omega)]
theorem xs_mulB {v w : Int} {B C : Nat} (h1 : -(B : Int) ≤ v) (h2 : v ≤ (B : Int)) (h3 : -(C : Int) ≤ w) (h4 : w ≤ (C : Int)) : -((B * C : Nat) : Int) ≤ v * w ∧ v * w ≤ ((B * C : Nat) : Int) := by
  have a1 : v.natAbs ≤ B := by omega
  have a2 : w.natAbs ≤ C := by omega
  have a3 : (v * w).natAbs ≤ B * C := by rw [Int.natAbs_mul]; exact Nat.mul_le_mul a1 a2
  omega
theorem xsII.mono {x : Int32} {v : Int} {B C : Nat} (h : xsII x v B) (hb : B ≤ C) : xsII x v C := ⟨h.1, by have := h.2.1; omega, by have := h.2.2; omega⟩
theorem xsIL.mono {x : Int64} {v : Int} {B C : Nat} (h : xsIL x v B) (hb : B ≤ C) : xsIL x v C := ⟨h.1, by have := h.2.1; omega, by have := h.2.2; omega⟩
theorem xsII.lit (x : Int32) (v : Int) (B : Nat) (h : x.toInt = v) (h1 : -(B : Int) ≤ v) (h2 : v ≤ (B : Int)) : xsII x v B := ⟨h, h1, h2⟩
theorem xsII.add {x y : Int32} {v w : Int} {B C : Nat} (hx : xsII x v B) (hy : xsII y w C) (h : B + C < 2147483648) : xsII (x + y) (v + w) (B + C) := by
  obtain ⟨rfl, h1, h2⟩ := hx; obtain ⟨rfl, h3, h4⟩ := hy
  exact ⟨by rw [Int32.toInt_add, xs_bmI (by omega) (by omega)], by omega, by omega⟩
theorem xsII.sub {x y : Int32} {v w : Int} {B C : Nat} (hx : xsII x v B) (hy : xsII y w C) (h : B + C < 2147483648) : xsII (x - y) (v - w) (B + C) := by
  obtain ⟨rfl, h1, h2⟩ := hx; obtain ⟨rfl, h3, h4⟩ := hy
  exact ⟨by rw [Int32.toInt_sub, xs_bmI (by omega) (by omega)], by omega, by omega⟩
theorem xsII.neg {x : Int32} {v : Int} {B : Nat} (hx : xsII x v B) (h : B < 2147483648) : xsII (-x) (-v) B := by
  obtain ⟨rfl, h1, h2⟩ := hx
  exact ⟨by rw [Int32.toInt_neg, xs_bmI (by omega) (by omega)], by omega, by omega⟩
theorem xsII.mul {x y : Int32} {v w : Int} {B C : Nat} (hx : xsII x v B) (hy : xsII y w C) (h : B * C < 2147483648) : xsII (x * y) (v * w) (B * C) := by
  obtain ⟨rfl, h1, h2⟩ := hx; obtain ⟨rfl, h3, h4⟩ := hy
  obtain ⟨g1, g2⟩ := xs_mulB h1 h2 h3 h4
  exact ⟨by rw [Int32.toInt_mul, xs_bmI (by omega) (by omega)], g1, g2⟩
theorem xsII.toL {x : Int32} {v : Int} {B : Nat} (hx : xsII x v B) : xsIL x.toInt64 v B := by
  obtain ⟨rfl, h1, h2⟩ := hx
  exact ⟨Int32.toInt_toInt64 x, h1, h2⟩
theorem xsIL.add {x y : Int64} {v w : Int} {B C : Nat} (hx : xsIL x v B) (hy : xsIL y w C) (h : B + C < 9223372036854775808) : xsIL (x + y) (v + w) (B + C) := by
  obtain ⟨rfl, h1, h2⟩ := hx; obtain ⟨rfl, h3, h4⟩ := hy
  exact ⟨by rw [Int64.toInt_add, xs_bmL (by omega) (by omega)], by omega, by omega⟩
theorem xsIL.sub {x y : Int64} {v w : Int} {B C : Nat} (hx : xsIL x v B) (hy : xsIL y w C) (h : B + C < 9223372036854775808) : xsIL (x - y) (v - w) (B + C) := by
  obtain ⟨rfl, h1, h2⟩ := hx; obtain ⟨rfl, h3, h4⟩ := hy
  exact ⟨by rw [Int64.toInt_sub, xs_bmL (by omega) (by omega)], by omega, by omega⟩
theorem xsIL.neg {x : Int64} {v : Int} {B : Nat} (hx : xsIL x v B) (h : B < 9223372036854775808) : xsIL (-x) (-v) B := by
  obtain ⟨rfl, h1, h2⟩ := hx
  exact ⟨by rw [Int64.toInt_neg, xs_bmL (by omega) (by omega)], by omega, by omega⟩
theorem xsIL.mul {x y : Int64} {v w : Int} {B C : Nat} (hx : xsIL x v B) (hy : xsIL y w C) (h : B * C < 9223372036854775808) : xsIL (x * y) (v * w) (B * C) := by
  obtain ⟨rfl, h1, h2⟩ := hx; obtain ⟨rfl, h3, h4⟩ := hy
  obtain ⟨g1, g2⟩ := xs_mulB h1 h2 h3 h4
  exact ⟨by rw [Int64.toInt_mul, xs_bmL (by omega) (by omega)], g1, g2⟩
theorem xsII.lt {x y : Int32} {v w : Int} {B C : Nat} (hx : xsII x v B) (hy : xsII y w C) : x < y ↔ v < w := by
  rw [Int32.lt_iff_toInt_lt, hx.1, hy.1]
theorem xsII.le {x y : Int32} {v w : Int} {B C : Nat} (hx : xsII x v B) (hy : xsII y w C) : x ≤ y ↔ v ≤ w := by
  rw [Int32.le_iff_toInt_le, hx.1, hy.1]
theorem xsII.eq {x y : Int32} {v w : Int} {B C : Nat} (hx : xsII x v B) (hy : xsII y w C) : x = y ↔ v = w := by
  rw [← Int32.toInt_inj, hx.1, hy.1]
theorem xsIL.lt {x y : Int64} {v w : Int} {B C : Nat} (hx : xsIL x v B) (hy : xsIL y w C) : x < y ↔ v < w := by
  rw [Int64.lt_iff_toInt_lt, hx.1, hy.1]
theorem xsIL.le {x y : Int64} {v w : Int} {B C : Nat} (hx : xsIL x v B) (hy : xsIL y w C) : x ≤ y ↔ v ≤ w := by
  rw [Int64.le_iff_toInt_le, hx.1, hy.1]
theorem xsIL.eq {x y : Int64} {v w : Int} {B C : Nat} (hx : xsIL x v B) (hy : xsIL y w C) : x = y ↔ v = w := by
  rw [← Int64.toInt_inj, hx.1, hy.1]
theorem xsII.zero : xsII 0 0 0 := ⟨rfl, Int.le_refl _, Int.le_refl _⟩
theorem xsII.one : xsII 1 1 1 := ⟨rfl, by decide, by decide⟩
theorem xsIL.zero : xsIL 0 0 0 := ⟨rfl, Int.le_refl _, Int.le_refl _⟩
theorem xsIL.one : xsIL 1 1 1 := ⟨rfl, by decide, by decide⟩
theorem xsII.ofI {n B : Nat} (h : n ≤ B) (hB : B < 2147483648) : xsII (nI n) (n : Int) B := ⟨nI_toInt (by omega), by omega, by omega⟩
theorem xsII.ofNat {x : Int32} {n B : Nat} (h : xsII x (n : Int) B) (hn : n < 2147483648) : x = nI n := by
  rw [← Int32.toInt_inj, h.1, nI_toInt (by omega)]
theorem xs_inN {n N : Nat} (h : n < N) (hN : N ≤ 10000) : vp_in (nI n) N := vp_in_nI h (by omega)
theorem xs_clN {n : Nat} (h : n < 2147483648) : (nI n).toNatClampNeg = n := nI_clamp (by omega)
