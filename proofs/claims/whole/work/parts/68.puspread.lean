/-! PURE: loops' heads, sets and counts put together; the SPREAD of an EVENT -/
theorem pu_go {β : Type} {n k : Nat} {a b : Option β} (h : k < n) (hn : n ≤ 1000000) : xsBr (puI (n : Int) ≤ puI (k : Int)) a b = b := xsBr_neg (by rw [puI_leN (by omega) (by omega)]; omega)
theorem pu_out {β : Type} {n : Nat} {a b : Option β} (hn : n ≤ 1000000) : xsBr (puI (n : Int) ≤ puI (n : Int)) a b = a := xsBr_pos (by rw [puI_leN (by omega) (by omega)]; omega)
theorem pu_bt {β : Type} {c : Prop} {a b : Option β} (h : c) : xsBr (puB c = 0) a b = b := xsBr_neg (by rw [puB_pos h]; decide)
theorem pu_bf {β : Type} {c : Prop} {a b : Option β} (h : ¬ c) : xsBr (puB c = 0) a b = a := xsBr_pos (puB_neg h)
theorem puSt_start {P : Nat → Prop} : puSt 0 (fun s => s < 0 ∧ P s) := puSt_c puSt_0 (fun i _ => ⟨fun q => q.elim, fun q => absurd q.1 (by omega)⟩)
theorem puSt_put {b : Int32} {k : Nat} (hk : k < 32) {P : Nat → Prop} (h : puSt b (fun s => s < k ∧ P s)) (c : P k) : puSt (b ||| ((1 : Int32) <<< (puI (k : Int) &&& 31))) (fun s => s < k + 1 ∧ P s) := by
  refine puSt_c (puSt_or h (puSt_1 hk)) (fun i _ => ⟨?_, ?_⟩)
  · rintro (q | rfl)
    · exact ⟨by omega, q.2⟩
    · exact ⟨by omega, c⟩
  · rintro ⟨q1, q2⟩
    by_cases e : i = k
    · exact Or.inr e
    · exact Or.inl ⟨by omega, q2⟩
theorem puSt_pass {b : Int32} {k : Nat} {P : Nat → Prop} (h : puSt b (fun s => s < k ∧ P s)) (c : ¬ P k) : puSt b (fun s => s < k + 1 ∧ P s) := by
  refine puSt_c h (fun i _ => ⟨fun q => ⟨by omega, q.2⟩, fun q => ⟨?_, q.2⟩⟩)
  by_cases e : i = k
  · subst e; exact absurd q.2 c
  · have := q.1; omega
theorem puSt_pass0 {b : Int32} {k : Nat} {P : Nat → Prop} (h : puSt b (fun s => s < k ∧ P s)) (c : ¬ P k) : puSt (b ||| (0 : Int32)) (fun s => s < k + 1 ∧ P s) :=
  puSt_c (puSt_or (puSt_pass h c) puSt_0) (fun i _ => ⟨fun q => q.elim id (fun q => q.elim), Or.inl⟩)
theorem puN_y {P : Nat → Prop} {k : Nat} (c : P k) : puN P (k + 1) = puN P k + 1 := by rw [puN_s, puE_pos c]
theorem puN_n {P : Nat → Prop} {k : Nat} (c : ¬ P k) : puN P (k + 1) = puN P k := by rw [puN_s, puE_neg c]; rfl
theorem puI_a0 (z : Int) : puI z + (0 : Int32) = puI z := by rw [show (0 : Int32) = puI 0 by rfl, puI_add, Int.add_zero]
theorem puPr_s (n : Nat) (R : Nat → Nat → Prop) : puPr (n + 1) R = puPr n R + puN (R n) n := rfl
/-- pairs of an EVENT's insides that meet in it -/
def puSpR (n : Nat) (G : puG) (k a b : Nat) : Prop := puInn n G k a ∧ puInn n G k b ∧ puKd (G a) (G b) = 1
theorem p_spread {n : Nat} {G : puG} (hv : puVal n G) (ho : puOkP n G) (hN : (puCan n G).1 ≤ 324) {l bu le re : Nat → Int32} (hl : puTie n l (fun s i => i < n ∧ s ≠ i ∧ puKd (G s) (G i) = 2)) (he : puEnd n G (puCan n G).1 (puCan n G).2 le re) {k : Nat} (hk : k < (puCan n G).1) (hb : puSt (bu k) (fun s => puO n G s k)) {tn sn : Int32} (htn : tn = puI (n : Int)) (hsn : sn = puI (n : Int)) : fX5_spread l tn bu le re sn (puI (k : Int)) = some (puI ((puPr n (puSpR n G k) : Nat) : Int)) := by
  subst htn
  subst hsn
  obtain ⟨r, er, hr⟩ := p_insides hv ho hN he hk hb
  have hp := p_pairsIn hv.1 (K := fun a b => puKd (G a) (G b) = 2) (fun a b ha hb => by rw [puKd_sym (hv.2 a ha) (hv.2 b hb)]) hl hr (fun i hi => hi.1.1.1)
  unfold fX5_spread
  rw [xsBd_some er, hp, xsBd_sm]
  refine congrArg (fun z : Nat => some (puI (z : Int))) (puPr_c (fun a b ha hb => ?_))
  unfold puSpR
  constructor
  · rintro ⟨h1, h2, h3⟩
    have k0 := puKd_0 (hv.2 a ha) (hv.2 b (by omega)) h1.1.1.2 h2.1.1.2
    have k2 := puKd_le (G a) (G b)
    exact ⟨h1, h2, by omega⟩
  · rintro ⟨h1, h2, h3⟩
    exact ⟨h1, h2, by omega⟩
theorem p_spread23 {n : Nat} {G : puG} {w : Nat → Int32} (hv : puVal n G) (hw : puMW n G w) {k : Nat} {o1 : Int32} (h1 : puSt o1 (puInn n G k)) {a : Nat} (ha : a < n) (t : Nat) {one two sh : Nat → Int32} {x y d : Int64} :
    puOk (xsWh (fun s29 => fX11_spreadOf_L23 w o1 (puI (a : Int)) s29.1 s29.2.1 s29.2.2.1 s29.2.2.2.1 s29.2.2.2.2.1 s29.2.2.2.2.2.1 s29.2.2.2.2.2.2.1 s29.2.2.2.2.2.2.2) (puI (t : Int), (0 : Int32), one, two, sh, x, y, d)) (fun r => r.1 = puI ((t + puN (puSpR n G k a) a : Nat) : Int)) := by
  have hn := hv.1
  refine puFor1 a (fun j z => z.2.1 = puI (j : Int) ∧ z.1 = puI ((t + puN (puSpR n G k a) j : Nat) : Int)) _ ⟨rfl, rfl⟩ ?_ ?_
  · rintro j ⟨c, b, one, two, sh, x, y, d⟩ hj ⟨e1, e2⟩
    simp only at e1 e2
    subst e1; subst e2
    simp only [fX11_spreadOf_L23]
    rw [pu_go hj (by omega), pu_holds _ (by omega), puB_iff (h1 a (by omega)), xsBd_sm]
    by_cases c1 : puInn n G k a
    case neg =>
      rw [pu_bf c1, xsBd_sm]
      simp only [fX11_spreadOf_J66]
      rw [xsLt_eq, xsLt_eq, puI_s1, puI_a0]
      exact ⟨_, rfl, rfl, by dsimp only; rw [puN_n (fun q => c1 q.1)]⟩
    rw [pu_bt c1, pu_holds _ (by omega), puB_iff (h1 j (by omega)), xsBd_sm]
    by_cases c2 : puInn n G k j
    case neg =>
      rw [pu_bf c2, xsBd_sm]
      simp only [fX11_spreadOf_J66]
      rw [xsLt_eq, xsLt_eq, puI_s1, puI_a0]
      exact ⟨_, rfl, rfl, by dsimp only; rw [puN_n (fun q => c2 q.2.1)]⟩
    obtain ⟨o, eo, o0, -⟩ := p_sharesOf hv hw ha (show j < n by omega) (one := one) (two := two) (sh := sh) (x := x) (y := y) (d := d)
    rw [pu_bt c2, xsBd_some eo]
    have kl := puKd_le (G a) (G j)
    simp only at o0
    rw [o0]
    by_cases c3 : puKd (G a) (G j) = 1
    · rw [xsBr_pos (by rw [c3]; rfl), xsBd_sm]
      simp only [fX11_spreadOf_J66]
      rw [xsLt_eq, xsLt_eq, puI_s1, puI_s1]
      exact ⟨_, rfl, rfl, by dsimp only; rw [puN_y ⟨c1, c2, c3⟩, Nat.add_assoc]⟩
    · rw [xsBr_neg (by rw [show (1 : Int32) = puI ((1 : Nat) : Int) by rfl, puI_eqN (by omega) (by omega)]; exact c3), xsBd_sm]
      simp only [fX11_spreadOf_J66]
      rw [xsLt_eq, xsLt_eq, puI_s1, puI_a0]
      exact ⟨_, rfl, rfl, by dsimp only; rw [puN_n (fun q => c3 q.2.2)]⟩
  · rintro ⟨c, b, one, two, sh, x, y, d⟩ ⟨e1, e2⟩
    simp only at e1 e2
    subst e1; subst e2
    simp only [fX11_spreadOf_L23]
    rw [pu_out (by omega)]
    exact ⟨_, rfl, rfl⟩
theorem p_mspread {n : Nat} {G : puG} {w : Nat → Int32} {ex ey ed : Nat → Int64} (hv : puVal n G) (hw : puMW n G w) (hN : (puCan n G).1 ≤ 324) (he : puEvs (puCan n G).1 (puCan n G).2 ex ey ed) {bu : Nat → Int32} {k : Nat} (hk : k < (puCan n G).1) (hb : puSt (bu k) (fun s => puO n G s k)) {one two sh : Nat → Int32} {x y d : Int64} :
    puOk (fX11_spreadOf w one two sh x y d ex ey ed bu (puI (k : Int))) (fun o => o.1 = puI ((puPr n (puSpR n G k) : Nat) : Int)) := by
  have hn := hv.1
  obtain ⟨o1, eo1, h1⟩ := p_within hv hw hN he hk hb
  have key : puOk (xsWh (fun s11 => fX11_spreadOf_L11 w o1 s11.1 s11.2.1 s11.2.2.1 s11.2.2.2.1 s11.2.2.2.2.1 s11.2.2.2.2.2.1 s11.2.2.2.2.2.2.1 s11.2.2.2.2.2.2.2) ((0 : Int32), (0 : Int32), one, two, sh, x, y, d)) (fun r => r.1 = puI ((puPr n (puSpR n G k) : Nat) : Int)) := by
    refine puFor1 n (fun j z => z.2.1 = puI (j : Int) ∧ z.1 = puI ((puPr j (puSpR n G k) : Nat) : Int)) _ ⟨rfl, rfl⟩ ?_ ?_
    · rintro j ⟨c, b, one, two, sh, x, y, d⟩ hj ⟨e1, e2⟩
      simp only at e1 e2
      subst e1; subst e2
      simp only [fX11_spreadOf_L11]
      obtain ⟨r, er, hr⟩ := p_spread23 hv hw h1 hj (puPr j (puSpR n G k)) (one := one) (two := two) (sh := sh) (x := x) (y := y) (d := d)
      rw [p_many hw, xsBd_sm, pu_go hj (by omega), xsBd_some er]
      simp only [fX11_spreadOf_J74]
      rw [xsLt_eq, puI_s1]
      exact ⟨_, rfl, rfl, hr⟩
    · rintro ⟨c, b, one, two, sh, x, y, d⟩ ⟨e1, e2⟩
      simp only at e1 e2
      subst e1; subst e2
      simp only [fX11_spreadOf_L11]
      rw [p_many hw, xsBd_sm, pu_out (by omega)]
      exact ⟨_, rfl, rfl⟩
  obtain ⟨r, er, hr⟩ := key
  unfold fX11_spreadOf
  rw [xsBd_some eo1, xsBd_some er]
  exact puOk_some hr
