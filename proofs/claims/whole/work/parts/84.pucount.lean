/-! PURE: pieces of count -/
theorem puI_div {a b : Nat} (ha : a < 2147483648) (hb : b < 2147483648) : puI (a : Int) / puI (b : Int) = puI ((a / b : Nat) : Int) := by
  unfold puI
  have := @Int32.ofInt_tdiv (a : Int) (b : Int) (by show (-2147483648 : Int) ≤ _; omega) (by show _ ≤ (2147483647 : Int); omega) (by show (-2147483648 : Int) ≤ _; omega) (by show _ ≤ (2147483647 : Int); omega)
  rw [← this]; rfl
theorem puI_rem2 {a : Nat} (ha : a < 2147483648) : puI (a : Int) - puI (a : Int) / (2 : Int32) * (2 : Int32) = puI ((a % 2 : Nat) : Int) := by
  rw [show (2 : Int32) = puI ((2 : Nat) : Int) by rfl, puI_div ha (by omega), puI_mul, puI_sub]
  congr 1; omega
theorem puI_and1 {a : Nat} (ha : a < 2147483648) : puI (a : Int) &&& (1 : Int32) = puI ((a % 2 : Nat) : Int) := by
  rw [show (1 : Int32) = nI 1 by rfl, ← puI_nI, ← puI_nI]
  refine b_ext (fun i hi => ?_)
  rw [b_and, pu_bt_nI _ _ hi, pu_bt_nI _ _ hi, pu_bt_nI _ _ hi, ← Nat.testBit_and, Nat.and_one_is_mod]
theorem pu_max {a b : Nat} (ha : a < 2147483648) (hb : b < 2147483648) : (if puI (a : Int) < puI (b : Int) then puI (b : Int) else puI (a : Int)) = puI ((max a b : Nat) : Int) := by
  by_cases c : a < b
  · rw [if_pos ((puI_ltN ha hb).mpr c)]; congr 2; omega
  · rw [if_neg (fun q => c ((puI_ltN ha hb).mp q))]; congr 2; omega
def co_mx (f : Nat → Nat) : Nat → Nat
  | 0 => 0
  | m + 1 => max (co_mx f m) (f m)
theorem co_mx_le {f : Nat → Nat} {b : Nat} (h : ∀ k, f k ≤ b) : ∀ m, co_mx f m ≤ b
  | 0 => Nat.zero_le _
  | m + 1 => by
    have := co_mx_le h m
    have := h m
    show max _ _ ≤ b
    omega
/-- the c-th CROSSING's EVENT -/
noncomputable def co_e (C : Nat → Prop) (c : Nat) : Nat := @dite _ (∃ e, C e ∧ puN C e = c) (Classical.propDecidable _) (fun h => Classical.choose h) (fun _ => 0)
theorem co_e_of {C : Nat → Prop} {e c : Nat} (h : C e) (hc : puN C e = c) : co_e C c = e := by
  have ex : ∃ e, C e ∧ puN C e = c := ⟨e, h, hc⟩
  have e1 : co_e C c = Classical.choose ex := dif_pos ex
  obtain ⟨h1, h2⟩ := Classical.choose_spec ex
  rw [e1]
  exact puN_inj h1 h (h2.trans hc.symm)
theorem co_sum {C : Nat → Prop} (f : Nat → Nat) : ∀ N, fb_sm (fun c => f (co_e C c)) (puN C N) = fb_sm (fun e => puE (C e) (f e) 0) N
  | 0 => rfl
  | N + 1 => by
    have ih := co_sum (C := C) f N
    rw [fb_sm_succ]
    by_cases c : C N
    · rw [puN_y c, fb_sm_succ, ih, co_e_of c rfl, puE_pos c]
    · rw [puN_n c, ih, puE_neg c, Nat.add_zero]
/-- how many a bundle has -/
noncomputable def co_b (n : Nat) (G : puG) (e : Nat) : Nat := puN (fun s => puO n G s e) 24
theorem p_grBu {n : Nat} {G : puG} (hn : n ≤ 24) {N : Nat} {C : Nat → Prop} {bu eo : Nat → Int32} {nc : Int32} (hN : N ≤ 324) (hb : ∀ k, k < N → puSt (bu k) (fun s => puO n G s k)) (heo : puEo C N eo) (hnc : nc = puI (puN C N : Int)) : fX1_greatestBundle bu eo nc = some (puI (co_mx (fun c => co_b n G (co_e C c)) (puN C N) : Int)) := by
  subst hnc
  have cn := puN_le C N
  have key : puOk (xsWh (fun s3 => fX1_greatestBundle_L4 bu eo (puI (puN C N : Int)) s3.1 s3.2) ((0 : Int32), (0 : Int32))) (fun r => r = puI (co_mx (fun c => co_b n G (co_e C c)) (puN C N) : Int)) := by
    refine puFor1 (puN C N) (fun m z => z.2 = puI (m : Int) ∧ z.1 = puI (co_mx (fun c => co_b n G (co_e C c)) m : Int)) _ ⟨rfl, rfl⟩ ?_ ?_
    · rintro m ⟨y1, y2⟩ hm ⟨q1, q2⟩
      simp only at q1 q2
      subst q1; subst q2
      obtain ⟨e, he, hC, hc⟩ := puN_kth hm
      have q := heo e he hC
      rw [hc] at q
      have ce := co_e_of hC hc
      have mb := co_mx_le (f := fun c => co_b n G (co_e C c)) (b := 24) (fun k => puN_le _ _) m
      have eb : co_b n G e ≤ 24 := puN_le _ _
      simp only [fX1_greatestBundle_L4]
      rw [pu_go hm (by omega), xsCk_in (by omega) (by omega) (by omega), puI_clN (by omega), q, xsCk_in (by omega) (by omega) (by omega), puI_clN (by omega), p_kbits (hb e he) (fun i hi => by have := hi.1; omega), puSt_n (hb e he) (by omega), xsBd_sm]
      rw [show puN (fun s => puO n G s e) 24 = co_b n G e by rfl, pu_max (by omega) (by omega), xsLt_eq, xsLt_eq, puI_s1]
      refine ⟨_, rfl, rfl, ?_⟩
      show puI ((max _ (co_b n G e) : Nat) : Int) = puI ((max _ (co_b n G (co_e C m)) : Nat) : Int)
      rw [ce]
    · rintro ⟨y1, y2⟩ ⟨q1, q2⟩
      simp only at q1 q2
      subst q1; subst q2
      simp only [fX1_greatestBundle_L4]
      rw [pu_out (by omega)]
      exact ⟨_, rfl, rfl⟩
  obtain ⟨r, er, rfl⟩ := key
  unfold fX1_greatestBundle
  rw [xsBd_some er]
  rfl
theorem p_wiBu {n : Nat} {G : puG} (hn : n ≤ 24) {N : Nat} {C : Nat → Prop} {bu eo : Nat → Int32} {nc : Int32} (hN : N ≤ 324) (hb : ∀ k, k < N → puSt (bu k) (fun s => puO n G s k)) (heo : puEo C N eo) (hnc : nc = puI (puN C N : Int)) : fX11_widestBundle bu eo nc = some (puI (co_mx (fun c => co_b n G (co_e C c)) (puN C N) : Int)) := by
  subst hnc
  have cn := puN_le C N
  have key : puOk (xsWh (fun s3 => fX11_widestBundle_L4 bu eo (puI (puN C N : Int)) s3.1 s3.2) ((0 : Int32), (0 : Int32))) (fun r => r = puI (co_mx (fun c => co_b n G (co_e C c)) (puN C N) : Int)) := by
    refine puFor1 (puN C N) (fun m z => z.2 = puI (m : Int) ∧ z.1 = puI (co_mx (fun c => co_b n G (co_e C c)) m : Int)) _ ⟨rfl, rfl⟩ ?_ ?_
    · rintro m ⟨y1, y2⟩ hm ⟨q1, q2⟩
      simp only at q1 q2
      subst q1; subst q2
      obtain ⟨e, he, hC, hc⟩ := puN_kth hm
      have q := heo e he hC
      rw [hc] at q
      have ce := co_e_of hC hc
      have mb := co_mx_le (f := fun c => co_b n G (co_e C c)) (b := 24) (fun k => puN_le _ _) m
      have eb : co_b n G e ≤ 24 := puN_le _ _
      simp only [fX11_widestBundle_L4]
      rw [pu_go hm (by omega), xsCk_in (by omega) (by omega) (by omega), puI_clN (by omega), q, xsCk_in (by omega) (by omega) (by omega), puI_clN (by omega), p_bits, puSt_n (hb e he) (by omega), xsBd_sm]
      rw [show puN (fun s => puO n G s e) 24 = co_b n G e by rfl, pu_max (by omega) (by omega), xsLt_eq, xsLt_eq, puI_s1]
      refine ⟨_, rfl, rfl, ?_⟩
      show puI ((max _ (co_b n G e) : Nat) : Int) = puI ((max _ (co_b n G (co_e C m)) : Nat) : Int)
      rw [ce]
    · rintro ⟨y1, y2⟩ ⟨q1, q2⟩
      simp only at q1 q2
      subst q1; subst q2
      simp only [fX11_widestBundle_L4]
      rw [pu_out (by omega)]
      exact ⟨_, rfl, rfl⟩
  obtain ⟨r, er, rfl⟩ := key
  unfold fX11_widestBundle
  rw [xsBd_some er]
  rfl
theorem p_oddK {N : Nat} {L : List (Nat × Nat)} {de : Nat → Int32} (hN : N ≤ 324) (hL : L.length ≤ 8000) (hd : ∀ e, e < N → de e = puI (puDg L e : Int)) {sz : Int32} (hsz : sz = puI (N : Int)) : fX2_oddDegrees de sz = some (puI (fb_sm (fun e => puDg L e % 2) N : Int)) := by
  subst hsz
  have key : puOk (xsWh (fun s3 => fX2_oddDegrees_L4 de (puI (N : Int)) s3.1 s3.2) ((0 : Int32), (0 : Int32))) (fun r => r = puI (fb_sm (fun e => puDg L e % 2) N : Int)) := by
    refine puFor1 N (fun m z => z.2 = puI (m : Int) ∧ z.1 = puI (fb_sm (fun e => puDg L e % 2) m : Int)) _ ⟨rfl, rfl⟩ ?_ ?_
    · rintro m ⟨y1, y2⟩ hm ⟨q1, q2⟩
      simp only at q1 q2
      subst q1; subst q2
      have dl := puDg_le L m
      simp only [fX2_oddDegrees_L4]
      rw [pu_go hm (by omega), xsCk_in (by omega) (by omega) (by omega), puI_clN (by omega), hd m hm, puI_and1 (by omega), puI_add, xsLt_eq, xsLt_eq, puI_s1]
      exact ⟨_, rfl, rfl, rfl⟩
    · rintro ⟨y1, y2⟩ ⟨q1, q2⟩
      simp only at q1 q2
      subst q1; subst q2
      simp only [fX2_oddDegrees_L4]
      rw [pu_out (by omega)]
      exact ⟨_, rfl, rfl⟩
  obtain ⟨r, er, rfl⟩ := key
  unfold fX2_oddDegrees
  rw [xsBd_some er]
  rfl
theorem p_oddM {N : Nat} {L : List (Nat × Nat)} {de : Nat → Int32} (hN : N ≤ 324) (hL : L.length ≤ 8000) (hd : ∀ e, e < N → de e = puI (puDg L e : Int)) {sz : Int32} (hsz : sz = puI (N : Int)) : fX11_odd sz de = some (puI (fb_sm (fun e => puDg L e % 2) N : Int)) := by
  subst hsz
  have key : puOk (xsWh (fun s3 => fX11_odd_L4 (puI (N : Int)) de s3.1 s3.2) ((0 : Int32), (0 : Int32))) (fun r => r = puI (fb_sm (fun e => puDg L e % 2) N : Int)) := by
    refine puFor1 N (fun m z => z.2 = puI (m : Int) ∧ z.1 = puI (fb_sm (fun e => puDg L e % 2) m : Int)) _ ⟨rfl, rfl⟩ ?_ ?_
    · rintro m ⟨y1, y2⟩ hm ⟨q1, q2⟩
      simp only at q1 q2
      subst q1; subst q2
      have dl := puDg_le L m
      simp only [fX11_odd_L4]
      rw [pu_go hm (by omega), xsCk_in (by omega) (by omega) (by omega), xsCk_pos (by decide), puI_clN (by omega), hd m hm, puI_rem2 (by omega), puI_add, xsLt_eq, xsLt_eq, puI_s1]
      exact ⟨_, rfl, rfl, rfl⟩
    · rintro ⟨y1, y2⟩ ⟨q1, q2⟩
      simp only at q1 q2
      subst q1; subst q2
      simp only [fX11_odd_L4]
      rw [pu_out (by omega)]
      exact ⟨_, rfl, rfl⟩
  obtain ⟨r, er, rfl⟩ := key
  unfold fX11_odd
  rw [xsBd_some er]
  rfl
theorem p_pairs15 {n : Nat} {G : puG} {w : Nat → Int32} (hv : puVal n G) (hw : puMW n G w) {k : Nat} (hk : k ≤ 2) {a : Nat} (ha : a < n) (t : Nat) {one two sh : Nat → Int32} {x y d : Int64} :
    puOk (xsWh (fun s27 => fX11_pairs_L15 w (puI (k : Int)) (puI (a : Int)) s27.1 s27.2.1 s27.2.2.1 s27.2.2.2.1 s27.2.2.2.2.1 s27.2.2.2.2.2.1 s27.2.2.2.2.2.2.1 s27.2.2.2.2.2.2.2) (puI (t : Int), (0 : Int32), one, two, sh, x, y, d)) (fun r => r.1 = puI ((t + puN (fun b => puKd (G a) (G b) = k) a : Nat) : Int)) := by
  have hn := hv.1
  refine puFor1 a (fun j z => z.2.1 = puI (j : Int) ∧ z.1 = puI ((t + puN (fun b => puKd (G a) (G b) = k) j : Nat) : Int)) _ ⟨rfl, rfl⟩ ?_ ?_
  · rintro j ⟨c, b, one, two, sh, x, y, d⟩ hj ⟨e1, e2⟩
    simp only at e1 e2
    subst e1; subst e2
    obtain ⟨o, eo, o0, -⟩ := p_sharesOf hv hw ha (show j < n by omega) (one := one) (two := two) (sh := sh) (x := x) (y := y) (d := d)
    have kl := puKd_le (G a) (G j)
    simp only at o0
    simp only [fX11_pairs_L15]
    rw [pu_go hj (by omega), xsBd_some eo, o0, xsBr_10, xsBd_sm, puB_iff (puI_eqN (by omega) (by omega))]
    simp only [fX11_pairs_J38]
    rw [xsLt_eq, xsLt_eq, puI_s1]
    refine ⟨_, rfl, rfl, ?_⟩
    dsimp only
    by_cases c3 : puKd (G a) (G j) = k
    · rw [puB_pos c3, puI_s1, puN_y (P := fun b => puKd (G a) (G b) = k) c3, Nat.add_assoc]
    · rw [puB_neg c3, puI_a0, puN_n (P := fun b => puKd (G a) (G b) = k) c3]
  · rintro ⟨c, b, one, two, sh, x, y, d⟩ ⟨e1, e2⟩
    simp only at e1 e2
    subst e1; subst e2
    simp only [fX11_pairs_L15]
    rw [pu_out (by omega)]
    exact ⟨_, rfl, rfl⟩
theorem p_pairs {n : Nat} {G : puG} {w : Nat → Int32} (hv : puVal n G) (hw : puMW n G w) {k : Nat} (hk : k ≤ 2) {one two sh : Nat → Int32} {x y d : Int64} : puOk (fX11_pairs w one two sh x y d (puI (k : Int))) (fun o => o.1 = puI ((puPr n (fun a b => puKd (G a) (G b) = k) : Nat) : Int)) := by
  have hn := hv.1
  have key : puOk (xsWh (fun s9 => fX11_pairs_L4 w (puI (k : Int)) s9.1 s9.2.1 s9.2.2.1 s9.2.2.2.1 s9.2.2.2.2.1 s9.2.2.2.2.2.1 s9.2.2.2.2.2.2.1 s9.2.2.2.2.2.2.2) ((0 : Int32), (0 : Int32), one, two, sh, x, y, d)) (fun r => r.1 = puI ((puPr n (fun a b => puKd (G a) (G b) = k) : Nat) : Int)) := by
    refine puFor1 n (fun j z => z.2.1 = puI (j : Int) ∧ z.1 = puI ((puPr j (fun a b => puKd (G a) (G b) = k) : Nat) : Int)) _ ⟨rfl, rfl⟩ ?_ ?_
    · rintro j ⟨c, b, one, two, sh, x, y, d⟩ hj ⟨e1, e2⟩
      simp only at e1 e2
      subst e1; subst e2
      obtain ⟨r, er, hr⟩ := p_pairs15 hv hw hk hj (puPr j (fun a b => puKd (G a) (G b) = k)) (one := one) (two := two) (sh := sh) (x := x) (y := y) (d := d)
      simp only [fX11_pairs_L4]
      rw [p_many hw, xsBd_sm, pu_go hj (by omega), xsBd_some er]
      simp only [fX11_pairs_J46]
      rw [xsLt_eq, puI_s1]
      exact ⟨_, rfl, rfl, hr⟩
    · rintro ⟨c, b, one, two, sh, x, y, d⟩ ⟨e1, e2⟩
      simp only at e1 e2
      subst e1; subst e2
      simp only [fX11_pairs_L4]
      rw [p_many hw, xsBd_sm, pu_out (by omega)]
      exact ⟨_, rfl, rfl⟩
  obtain ⟨r, er, hr⟩ := key
  unfold fX11_pairs
  rw [xsBd_some er]
  exact puOk_some hr
theorem p_sprK {n : Nat} {G : puG} (hv : puVal n G) (ho : puOkP n G) (hN : (puCan n G).1 ≤ 324) {l bu eo le re : Nat → Int32} (hl : puTie n l (fun s i => i < n ∧ s ≠ i ∧ puKd (G s) (G i) = 2)) (he : puEnd n G (puCan n G).1 (puCan n G).2 le re) (hb : ∀ k, k < (puCan n G).1 → puSt (bu k) (fun s => puO n G s k)) (heo : puEo (puX n G) (puCan n G).1 eo) {tn sn nc : Int32} (htn : tn = puI (n : Int)) (hsn : sn = puI (n : Int)) (hnc : nc = puI (puN (puX n G) (puCan n G).1 : Int)) : fX5_spreads l tn bu eo le re nc sn = some (puI ((fb_sm (fun c => puPr n (puSpR n G (co_e (puX n G) c))) (puN (puX n G) (puCan n G).1) : Nat) : Int)) := by
  have cn := puN_le (puX n G) (puCan n G).1
  have key : puOk (xsWh (fun s3 => fX5_spreads_L4 l tn bu eo le re nc sn s3.1 s3.2) ((0 : Int32), (0 : Int32))) (fun r => r = puI ((fb_sm (fun c => puPr n (puSpR n G (co_e (puX n G) c))) (puN (puX n G) (puCan n G).1) : Nat) : Int)) := by
    refine puFor1 (puN (puX n G) (puCan n G).1) (fun m z => z.2 = puI (m : Int) ∧ z.1 = puI ((fb_sm (fun c => puPr n (puSpR n G (co_e (puX n G) c))) m : Nat) : Int)) _ ⟨rfl, rfl⟩ ?_ ?_
    · rintro m ⟨y1, y2⟩ hm ⟨q1, q2⟩
      simp only at q1 q2
      subst q1; subst q2
      obtain ⟨e, hee, hC, hc⟩ := puN_kth hm
      have q := heo e hee hC
      rw [hc] at q
      have ce := co_e_of hC hc
      simp only [fX5_spreads_L4]
      rw [pu_goz hnc hm (by omega), xsCk_in (by omega) (by omega) (by omega), puI_clN (by omega), q, p_spread hv ho hN hl he hee (hb e hee) htn hsn, xsBd_sm, puI_add, xsLt_eq, xsLt_eq, puI_s1]
      refine ⟨_, rfl, rfl, ?_⟩
      dsimp only
      rw [fb_sm_succ, ce]
      rfl
    · rintro ⟨y1, y2⟩ ⟨q1, q2⟩
      simp only at q1 q2
      subst q1; subst q2
      simp only [fX5_spreads_L4]
      rw [hnc, pu_out (by omega)]
      exact ⟨_, rfl, rfl⟩
  obtain ⟨r, er, rfl⟩ := key
  unfold fX5_spreads
  rw [xsBd_some er]
  rfl
theorem co_spr {n : Nat} {G : puG} (hv : puVal n G) : fb_sm (fun c => puPr n (puSpR n G (co_e (puX n G) c))) (puN (puX n G) (puCan n G).1) = fb_sm (fun e => puPr n (puSpR n G e)) (puCan n G).1 := by
  rw [co_sum (C := puX n G) (fun e => puPr n (puSpR n G e))]
  refine fb_sm_cong (fun e he => ?_)
  by_cases c : puX n G e
  · rw [puE_pos c]
  · rw [puE_neg c]
    apply Eq.symm
    rcases Nat.eq_zero_or_pos (puPr n (puSpR n G e)) with z | z
    · exact z
    · exfalso
      obtain ⟨a, b, h1, h2, h3, h4, h5⟩ := puPr_pos.mp z
      obtain ⟨-, -, u⟩ := puKd_1 (hv.2 a h2) (hv.2 b (by omega)) h5
      exact c ⟨a, b, h1, h2, h5, u _ h3.1.1.2 h4.1.1.2⟩
theorem p_sprM {n : Nat} {G : puG} {w : Nat → Int32} {ex ey ed : Nat → Int64} (hv : puVal n G) (hw : puMW n G w) (hN : (puCan n G).1 ≤ 324) (he : puEvs (puCan n G).1 (puCan n G).2 ex ey ed) {bu : Nat → Int32} (hb : ∀ k, k < (puCan n G).1 → puSt (bu k) (fun s => puO n G s k)) {sz : Int32} (hsz : sz = puI ((puCan n G).1 : Int)) {one two sh : Nat → Int32} {x y d : Int64} : puOk (fX11_spreads w one two sh x y d ex ey ed sz bu) (fun o => o.1 = puI ((fb_sm (fun e => puPr n (puSpR n G e)) (puCan n G).1 : Nat) : Int)) := by
  subst hsz
  have key : puOk (xsWh (fun s9 => fX11_spreads_L4 w ex ey ed (puI ((puCan n G).1 : Int)) bu s9.1 s9.2.1 s9.2.2.1 s9.2.2.2.1 s9.2.2.2.2.1 s9.2.2.2.2.2.1 s9.2.2.2.2.2.2.1 s9.2.2.2.2.2.2.2) ((0 : Int32), (0 : Int32), one, two, sh, x, y, d)) (fun o => o.1 = puI ((fb_sm (fun e => puPr n (puSpR n G e)) (puCan n G).1 : Nat) : Int)) := by
    refine puFor1 (puCan n G).1 (fun m z => z.2.1 = puI (m : Int) ∧ z.1 = puI ((fb_sm (fun e => puPr n (puSpR n G e)) m : Nat) : Int)) _ ⟨rfl, rfl⟩ ?_ ?_
    · rintro m ⟨y1, y2, one, two, sh, x, y, d⟩ hm ⟨q1, q2⟩
      simp only at q1 q2
      subst q1; subst q2
      obtain ⟨o, eo, ho⟩ := p_mspread hv hw hN he hm (hb m hm) (one := one) (two := two) (sh := sh) (x := x) (y := y) (d := d)
      simp only [fX11_spreads_L4]
      rw [pu_go hm (by omega), xsBd_some eo, ho, puI_add, xsLt_eq, xsLt_eq, puI_s1]
      exact ⟨_, rfl, rfl, rfl⟩
    · rintro ⟨y1, y2, one, two, sh, x, y, d⟩ ⟨q1, q2⟩
      simp only at q1 q2
      subst q1; subst q2
      simp only [fX11_spreads_L4]
      rw [pu_out (by omega)]
      exact ⟨_, rfl, rfl⟩
  obtain ⟨r, er, hr⟩ := key
  unfold fX11_spreads
  rw [xsBd_some er]
  exact puOk_some hr
/-- how many STATUS has; the most of them and the first EVENT with so many -/
noncomputable def co_s (n : Nat) (G : puG) (e : Nat) : Nat := puN (fun s => su_al (G s) ((puCan n G).2 e)) n
def co_m (N : Nat) (c : Nat → Nat) (m : Nat) (f : Int) : Prop := (N = 0 ∧ m = 0 ∧ f = -1) ∨ ∃ e : Nat, e < N ∧ m = c e ∧ f = (e : Int) ∧ (∀ i, i < e → c i < c e) ∧ ∀ i, i < N → c i ≤ c e
theorem co_m_u {N : Nat} {c : Nat → Nat} {m m' : Nat} {f f' : Int} (h : co_m N c m f) (hh : co_m N c m' f') : m = m' ∧ f = f' := by
  rcases h with ⟨a, b, d⟩ | ⟨e, h1, h2, h3, h4, h5⟩
  · rcases hh with ⟨a', b', d'⟩ | ⟨e', k1, -⟩
    · exact ⟨by omega, by omega⟩
    · omega
  · rcases hh with ⟨a', b', d'⟩ | ⟨e', k1, k2, k3, k4, k5⟩
    · omega
    · rcases Nat.lt_trichotomy e e' with z | z | z
      · have := k4 e z; have := h5 e' k1; omega
      · subst z; exact ⟨by omega, by omega⟩
      · have := h4 e' z; have := k5 e h1; omega
theorem p_grSt {n : Nat} {G : puG} (hv : puVal n G) (ho : puOkP n G) (hN : (puCan n G).1 ≤ 324) {le re : Nat → Int32} (he : puEnd n G (puCan n G).1 (puCan n G).2 le re) {sz sn : Int32} (hsz : sz = puI ((puCan n G).1 : Int)) (hsn : sn = puI (n : Int)) : ∃ (m : Nat) (f : Int), m ≤ 24 ∧ -1 ≤ f ∧ f < 324 ∧ co_m (puCan n G).1 (co_s n G) m f ∧ fX1_greatestStatus le re sz sn = some (puI (m : Int)) ∧ fX1_firstOfStatus le re sz sn (puI (m : Int)) = some (puI f) := by
  have hn := hv.1
  have bits : ∀ k, k < (puCan n G).1 → ∃ x, fX1_aliveBehind le re sn (puI (k : Int)) = some x ∧ fJ6_bitCount_0f7a4 x = some (puI (co_s n G k : Int)) := by
    intro k hk
    obtain ⟨x, ex, hx⟩ := p_alive hn ho.2 hN he hk hsn
    refine ⟨x, ex, ?_⟩
    rw [p_kbits hx (fun i hi => by have := hi.1; omega), puSt_n hx (by omega), su_cnt hn]
    rfl
  have cs : ∀ k, co_s n G k ≤ 24 := fun k => Nat.le_trans (puN_le _ _) hn
  have k1 : puOk (xsWh (fun s3 => fX1_greatestStatus_L4 le re sz sn s3.1 s3.2) ((0 : Int32), (0 : Int32))) (fun r => r = puI (co_mx (co_s n G) (puCan n G).1 : Int)) := by
    refine puFor1 (puCan n G).1 (fun m z => z.2 = puI (m : Int) ∧ z.1 = puI (co_mx (co_s n G) m : Int)) _ ⟨rfl, rfl⟩ ?_ ?_
    · rintro m ⟨y1, y2⟩ hm ⟨q1, q2⟩
      simp only at q1 q2
      subst q1; subst q2
      obtain ⟨x, e1, e2⟩ := bits m hm
      have mb := co_mx_le cs m
      have := cs m
      simp only [fX1_greatestStatus_L4]
      rw [pu_goz hsz hm (by omega), e1, xsBd_sm, e2, xsBd_sm, pu_max (by omega) (by omega), xsLt_eq, xsLt_eq, puI_s1]
      exact ⟨_, rfl, rfl, rfl⟩
    · rintro ⟨y1, y2⟩ ⟨q1, q2⟩
      simp only at q1 q2
      subst q1; subst q2
      simp only [fX1_greatestStatus_L4]
      rw [hsz, pu_out (by omega)]
      exact ⟨_, rfl, rfl⟩
  have mx : ∀ N, (N = 0 ∧ co_mx (co_s n G) N = 0) ∨ ∃ e, e < N ∧ co_mx (co_s n G) N = co_s n G e ∧ (∀ i, i < e → co_s n G i < co_s n G e) ∧ ∀ i, i < N → co_s n G i ≤ co_s n G e := by
    intro N
    induction N with
    | zero => exact Or.inl ⟨rfl, rfl⟩
    | succ N ih =>
      right
      have es : co_mx (co_s n G) (N + 1) = max (co_mx (co_s n G) N) (co_s n G N) := rfl
      rcases ih with ⟨z, ih⟩ | ⟨e, h1, h2, h3, h4⟩
      · subst z
        refine ⟨0, by omega, ?_, fun i hi => by omega, fun i hi => ?_⟩
        · rw [es, ih]; omega
        · obtain rfl : i = 0 := by omega
          exact Nat.le_refl _
      · by_cases c : co_s n G e < co_s n G N
        · refine ⟨N, by omega, by rw [es, h2]; omega, fun i hi => ?_, fun i hi => ?_⟩
          · have := h4 i hi; omega
          · by_cases z : i = N
            · subst z; exact Nat.le_refl _
            · have := h4 i (by omega); omega
        · refine ⟨e, by omega, by rw [es, h2]; omega, h3, fun i hi => ?_⟩
          by_cases z : i = N
          · subst z; omega
          · exact h4 i (by omega)
  have mb := co_mx_le cs (puCan n G).1
  have k2 : ∃ f : Int, -1 ≤ f ∧ f < 324 ∧ co_m (puCan n G).1 (co_s n G) (co_mx (co_s n G) (puCan n G).1) f ∧ fX1_firstOfStatus le re sz sn (puI (co_mx (co_s n G) (puCan n G).1 : Int)) = some (puI f) := by
    have key : puOk (xsWh (fun s2 => fX1_firstOfStatus_L2 le re sz sn (puI (co_mx (co_s n G) (puCan n G).1 : Int)) s2) (0 : Int32)) (fun r => ∃ f : Int, -1 ≤ f ∧ f < 324 ∧ co_m (puCan n G).1 (co_s n G) (co_mx (co_s n G) (puCan n G).1) f ∧ (r = .inl (puI f) ∨ (f = -1 ∧ r = .inr ()))) := by
      refine puFor (puCan n G).1 (fun m z => z = puI (m : Int) ∧ ∀ i, i < m → co_s n G i ≠ co_mx (co_s n G) (puCan n G).1) _ ?_ ?_ 0 _ (Nat.zero_le _) ⟨rfl, fun i hi => by omega⟩
      · rintro m z hm ⟨rfl, hz⟩
        obtain ⟨x, e1, e2⟩ := bits m hm
        have := cs m
        simp only [fX1_firstOfStatus_L2]
        rw [pu_goz hsz hm (by omega), e1, xsBd_sm, e2, xsBd_sm]
        by_cases c : co_s n G m = co_mx (co_s n G) (puCan n G).1
        · rw [xsBr_pos (by rw [c])]
          refine Or.inr ⟨_, rfl, (m : Int), by omega, by omega, Or.inr ⟨m, hm, c.symm, rfl, fun i hi => ?_, fun i hi => ?_⟩, Or.inl rfl⟩
          · rcases mx (puCan n G).1 with ⟨z, -⟩ | ⟨e, h1, h2, h3, h4⟩
            · omega
            · have a1 := h4 i (by omega)
              have a2 := hz i hi
              omega
          · rcases mx (puCan n G).1 with ⟨z, -⟩ | ⟨e, h1, h2, h3, h4⟩
            · omega
            · have a1 := h4 i hi
              omega
        · rw [xsBr_neg (by rw [puI_eqN (by omega) (by omega)]; exact c), xsLt_eq, puI_s1]
          refine Or.inl ⟨_, rfl, rfl, fun i hi => ?_⟩
          by_cases e : i = m
          · subst e; exact c
          · exact hz i (by omega)
      · rintro z ⟨rfl, hz⟩
        simp only [fX1_firstOfStatus_L2]
        rw [hsz, pu_out (by omega)]
        refine ⟨_, rfl, -1, by omega, by omega, Or.inl ?_, Or.inr ⟨rfl, rfl⟩⟩
        rcases mx (puCan n G).1 with ⟨z, h⟩ | ⟨e, h1, h2, h3, h4⟩
        · exact ⟨z, h, rfl⟩
        · exact absurd h2.symm (hz e h1)
    obtain ⟨r, er, f, f1, f2, f3, hr⟩ := key
    refine ⟨f, f1, f2, f3, ?_⟩
    unfold fX1_firstOfStatus
    rw [xsBd_some er]
    rcases hr with rfl | ⟨rfl, rfl⟩
    · rfl
    · rfl
  obtain ⟨f, f1, f2, f3, f4⟩ := k2
  obtain ⟨r, er, rfl⟩ := k1
  refine ⟨_, f, mb, f1, f2, f3, ?_, f4⟩
  unfold fX1_greatestStatus
  rw [xsBd_some er]
  rfl
theorem p_moSt {n : Nat} {G : puG} {w : Nat → Int32} {ex ey ed : Nat → Int64} (hv : puVal n G) (hw : puMW n G w) (hN : (puCan n G).1 ≤ 324) (he : puEvs (puCan n G).1 (puCan n G).2 ex ey ed) {sz : Int32} (hsz : sz = puI ((puCan n G).1 : Int)) {met : Nat → Int32} {up lo : Nat → Int64} {which : Int32} : puOk (fX11_mostStatus w ex ey ed sz met up lo which) (fun o => ∃ (m : Nat) (f : Int), m ≤ 24 ∧ co_m (puCan n G).1 (co_s n G) m f ∧ ((which = 0 ∧ o.1 = puI (m : Int)) ∨ (which ≠ 0 ∧ o.1 = puI f))) := by
  subst hsz
  have hn := hv.1
  have cs : ∀ k, co_s n G k ≤ 24 := fun k => Nat.le_trans (puN_le _ _) hn
  have key : puOk (xsWh (fun s7 => fX11_mostStatus_L7 w ex ey ed (puI ((puCan n G).1 : Int)) s7.1 s7.2.1 s7.2.2.1 s7.2.2.2.1 s7.2.2.2.2.1 s7.2.2.2.2.2) ((-1 : Int32), (-1 : Int32), (0 : Int32), met, up, lo)) (fun r => ((puCan n G).1 = 0 ∧ r.1 = puI (-1) ∧ r.2.1 = puI (-1)) ∨ ∃ e : Nat, e < (puCan n G).1 ∧ r.1 = puI (e : Int) ∧ r.2.1 = puI (co_s n G e : Int) ∧ (∀ i, i < e → co_s n G i < co_s n G e) ∧ ∀ i, i < (puCan n G).1 → co_s n G i ≤ co_s n G e) := by
    refine puFor1 (puCan n G).1 (fun m z => z.2.2.1 = puI (m : Int) ∧ ((m = 0 ∧ z.1 = puI (-1) ∧ z.2.1 = puI (-1)) ∨ ∃ e : Nat, e < m ∧ z.1 = puI (e : Int) ∧ z.2.1 = puI (co_s n G e : Int) ∧ (∀ i, i < e → co_s n G i < co_s n G e) ∧ ∀ i, i < m → co_s n G i ≤ co_s n G e)) _ ⟨rfl, Or.inl ⟨rfl, rfl, rfl⟩⟩ ?_ ?_
    · rintro m ⟨y1, y2, y3, y4, y5, y6⟩ hm ⟨q1, q2⟩
      simp only at q1 q2
      subst q1
      obtain ⟨o, eo, o0, -⟩ := p_mstatus hv hw he hN hm (met := y4) (up := y5) (lo := y6)
      rw [show puN (fun s => su_al (G s) ((puCan n G).2 m)) n = co_s n G m by rfl] at o0
      have := cs m
      simp only [fX11_mostStatus_L7]
      rw [pu_go hm (by omega), xsBd_some eo, o0]
      rcases q2 with ⟨z, q2, q3⟩ | ⟨e, e1, q2, q3, e4, e5⟩
      · subst z; subst q2; subst q3
        rw [xsBr_pos (by rw [puI_lt (by omega) (by omega) (by omega) (by omega)]; omega), xsBd_sm]
        simp only [fX11_mostStatus_J39]
        rw [xsLt_eq, puI_s1]
        refine ⟨_, rfl, rfl, Or.inr ⟨0, by omega, rfl, rfl, fun i hi => by omega, fun i hi => ?_⟩⟩
        obtain rfl : i = 0 := by omega
        exact Nat.le_refl _
      · subst q2; subst q3
        have := cs e
        by_cases c : co_s n G e < co_s n G m
        · rw [xsBr_pos ((puI_ltN (by omega) (by omega)).mpr c), xsBd_sm]
          simp only [fX11_mostStatus_J39]
          rw [xsLt_eq, puI_s1]
          refine ⟨_, rfl, rfl, Or.inr ⟨m, by omega, rfl, rfl, fun i hi => ?_, fun i hi => ?_⟩⟩
          · have := e5 i hi; omega
          · by_cases z : i = m
            · subst z; exact Nat.le_refl _
            · have := e5 i (by omega); omega
        · rw [xsBr_neg (fun q => c ((puI_ltN (by omega) (by omega)).mp q)), xsBd_sm]
          simp only [fX11_mostStatus_J39]
          rw [xsLt_eq, puI_s1]
          refine ⟨_, rfl, rfl, Or.inr ⟨e, by omega, rfl, rfl, e4, fun i hi => ?_⟩⟩
          by_cases z : i = m
          · subst z; omega
          · exact e5 i (by omega)
    · rintro ⟨y1, y2, y3, y4, y5, y6⟩ ⟨q1, q2⟩
      simp only at q1 q2
      subst q1
      simp only [fX11_mostStatus_L7]
      rw [pu_out (by omega)]
      exact ⟨_, rfl, q2⟩
  obtain ⟨r, er, hr⟩ := key
  unfold fX11_mostStatus
  rw [xsBd_some er]
  unfold fX11_mostStatus_J45
  rcases hr with ⟨z, h1, h2⟩ | ⟨e, e1, h1, h2, e4, e5⟩
  · have c : co_m (puCan n G).1 (co_s n G) 0 (-1) := Or.inl ⟨z, rfl, rfl⟩
    by_cases d : which = 0
    · rw [xsBr_pos d, h2]
      exact puOk_some ⟨0, -1, by omega, c, Or.inl ⟨d, rfl⟩⟩
    · rw [xsBr_neg d, h1]
      exact puOk_some ⟨0, -1, by omega, c, Or.inr ⟨d, rfl⟩⟩
  · have c : co_m (puCan n G).1 (co_s n G) (co_s n G e) (e : Int) := Or.inr ⟨e, e1, rfl, rfl, e4, e5⟩
    by_cases d : which = 0
    · rw [xsBr_pos d, h2]
      refine puOk_some ⟨co_s n G e, e, cs e, c, Or.inl ⟨d, ?_⟩⟩
      dsimp only
      have := cs e
      rw [show (0 : Int32) = puI ((0 : Nat) : Int) by rfl, pu_max (by omega) (by omega)]
      exact congrArg (fun z : Nat => puI (z : Int)) (by omega)
    · rw [xsBr_neg d, h1]
      exact puOk_some ⟨co_s n G e, e, cs e, c, Or.inr ⟨d, rfl⟩⟩
