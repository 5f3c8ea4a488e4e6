/-! PURE: BLAME -/
def bl_R (n : Nat) (G : puG) (e a b : Nat) : Prop := puKd (G a) (G b) = 1 ∧ puMp (G a) (G b) = (puCan n G).2 e
def bl_S (n : Nat) (G : puG) (e s a b : Nat) : Prop := bl_R n G e a b ∧ (a = s ∨ b = s)
def bl_k (n : Nat) (G : puG) (s e : Nat) : Prop := ∃ a b, b < a ∧ a < n ∧ bl_R n G e a b ∧ ¬ (a = s ∨ b = s)
noncomputable def bl_f (n : Nat) (G : puG) (s : Nat) : Nat := puN (cp (puX n G) (fun e => ¬ bl_k n G s e)) (puN (puX n G) (puCan n G).1)
theorem puPr_split {n : Nat} {A B : Nat → Nat → Prop} : puPr n A = puPr n (fun a b => A a b ∧ B a b) + puPr n (fun a b => A a b ∧ ¬ B a b) := by
  unfold puPr
  rw [← fb_sm_add]
  exact fb_sm_cong (fun a _ => puN_split)
theorem p_fewer {n : Nat} {G : puG} (hv : puVal n G) (hN : (puCan n G).1 ≤ 324) {l bu eo : Nat → Int32} (hl : puTie n l (fun s i => i < n ∧ s ≠ i ∧ puKd (G s) (G i) = 2)) (hb : ∀ k, k < (puCan n G).1 → puSt (bu k) (fun s => puO n G s k)) (heo : puEo (puX n G) (puCan n G).1 eo) {tn nc : Int32} (htn : tn = puI (n : Int)) (hnc : nc = puI (puN (puX n G) (puCan n G).1 : Int)) {s : Nat} (hs : s < n) : fX5_crossingsFewerWithout l tn bu eo nc (puI (s : Int)) = some (puI (bl_f n G s : Int)) := by
  subst htn
  have hn := hv.1
  have cn := puN_le (puX n G) (puCan n G).1
  have key : puOk (xsWh (fun s3 => fX5_crossingsFewerWithout_L4 l (puI (n : Int)) bu eo nc (puI (s : Int)) s3.1 s3.2) ((0 : Int32), (0 : Int32))) (fun r => r = puI (bl_f n G s : Int)) := by
    refine puFor1 (puN (puX n G) (puCan n G).1) (fun m z => z.2 = puI (m : Int) ∧ z.1 = puI (puN (cp (puX n G) (fun e => ¬ bl_k n G s e)) m : Int)) _ ⟨rfl, rfl⟩ ?_ ?_
    · rintro m ⟨y1, y2⟩ hm ⟨q1, q2⟩
      simp only at q1 q2
      subst q1; subst q2
      obtain ⟨e, he, hC, hc⟩ := puN_kth hm
      have q := heo e he hC
      rw [hc] at q
      have at1 := cp_at (Q := fun e => ¬ bl_k n G s e) hC hc
      simp only [fX5_crossingsFewerWithout_L4]
      rw [pu_goz hnc hm (by omega), xsCk_in (by omega) (by omega) (by omega), puI_clN (by omega), q, xsCk_in (by omega) (by omega) (by omega), puI_clN (by omega), xsLt_eq, pu_has _ (by omega), puB_iff (hb e he s (by omega)), xsBd_sm]
      have no : ¬ cp (puX n G) (fun e => ¬ bl_k n G s e) m → ∃ s', fX5_crossingsFewerWithout_J64 (puI (m : Int)) (puI (puN (cp (puX n G) (fun e => ¬ bl_k n G s e)) m : Int)) = some (.inl s') ∧ s'.2 = puI ((m + 1 : Nat) : Int) ∧ s'.1 = puI (puN (cp (puX n G) (fun e => ¬ bl_k n G s e)) (m + 1) : Int) := by
        intro c
        simp only [fX5_crossingsFewerWithout_J64]
        rw [xsLt_eq, puI_s1]
        exact ⟨_, rfl, rfl, by dsimp only; rw [puN_n c]⟩
      by_cases c : puO n G s e
      case neg =>
        rw [pu_bf c, xsBd_sm]
        refine no (fun z => at1.mp z ?_)
        obtain ⟨a, b, h1, h2, h3, h4⟩ := hC
        obtain ⟨o1, o2, -⟩ := puKd_1 (hv.2 a h2) (hv.2 b (by omega)) h3
        rw [← h4] at o1 o2
        refine ⟨a, b, h1, h2, ⟨h3, h4.symm⟩, ?_⟩
        rintro (rfl | rfl)
        · exact c ⟨h2, o1⟩
        · exact c ⟨by omega, o2⟩
      have hx := puSt_and (hb e he) (puSt_not (puSt_1 (s := s) (by omega)))
      have hp := p_pairsIn hn (K := fun a b => puKd (G a) (G b) = 2) (fun a b ha hb => by rw [puKd_sym (hv.2 a ha) (hv.2 b hb)]) hl hx (fun i hi => hi.1.1)
      have pl := puPr_le n (fun a b => (puO n G a e ∧ ¬ a = s) ∧ (puO n G b e ∧ ¬ b = s) ∧ ¬ puKd (G a) (G b) = 2)
      have nn : n * n ≤ 24 * 24 := Nat.mul_le_mul hn hn
      have pk : 0 < puPr n (fun a b => (puO n G a e ∧ ¬ a = s) ∧ (puO n G b e ∧ ¬ b = s) ∧ ¬ puKd (G a) (G b) = 2) ↔ bl_k n G s e := by
        rw [puPr_pos]
        constructor
        · rintro ⟨a, b, h1, h2, ⟨h3, h4⟩, ⟨h5, h6⟩, h7⟩
          have k0 := puKd_0 (hv.2 a h2) (hv.2 b (by omega)) h3.2 h5.2
          have kl := puKd_le (G a) (G b)
          have k1 : puKd (G a) (G b) = 1 := by omega
          exact ⟨a, b, h1, h2, ⟨k1, ((puKd_1 (hv.2 a h2) (hv.2 b (by omega)) k1).2.2 _ h3.2 h5.2).symm⟩, fun z => z.elim h4 h6⟩
        · rintro ⟨a, b, h1, h2, ⟨h3, h4⟩, h5⟩
          obtain ⟨o1, o2, -⟩ := puKd_1 (hv.2 a h2) (hv.2 b (by omega)) h3
          rw [h4] at o1 o2
          exact ⟨a, b, h1, h2, ⟨⟨h2, o1⟩, fun z => h5 (Or.inl z)⟩, ⟨⟨by omega, o2⟩, fun z => h5 (Or.inr z)⟩, by omega⟩
      rw [pu_bt c, hp, xsBd_sm]
      generalize puPr n (fun a b => (puO n G a e ∧ ¬ a = s) ∧ (puO n G b e ∧ ¬ b = s) ∧ ¬ puKd (G a) (G b) = 2) = p at *
      by_cases d : p = 0
      · rw [xsBr_pos (by rw [d]; rfl), xsLt_eq, xsBd_sm]
        simp only [fX5_crossingsFewerWithout_J64]
        rw [xsLt_eq, puI_s1, puI_s1]
        exact ⟨_, rfl, rfl, by dsimp only; rw [puN_y (at1.mpr (fun z => by have := pk.mpr z; omega))]⟩
      · rw [xsBr_neg (by rw [show (0 : Int32) = puI ((0 : Nat) : Int) by rfl, puI_eqN (by omega) (by omega)]; exact d), xsBd_sm]
        exact no (fun z => at1.mp z (pk.mp (by omega)))
    · rintro ⟨y1, y2⟩ ⟨q1, q2⟩
      simp only at q1 q2
      subst q1; subst q2
      simp only [fX5_crossingsFewerWithout_L4]
      rw [hnc, pu_out (by omega)]
      exact ⟨_, rfl, rfl⟩
  obtain ⟨r, er, rfl⟩ := key
  unfold fX5_crossingsFewerWithout
  rw [xsBd_some er]
  rfl
theorem bl_f_le (n : Nat) (G : puG) (s : Nat) : bl_f n G s ≤ puN (puX n G) (puCan n G).1 := puN_le _ _
theorem p_blameK {n : Nat} {G : puG} (hv : puVal n G) (hN : (puCan n G).1 ≤ 324) {l bu eo : Nat → Int32} (hl : puTie n l (fun s i => i < n ∧ s ≠ i ∧ puKd (G s) (G i) = 2)) (hb : ∀ k, k < (puCan n G).1 → puSt (bu k) (fun s => puO n G s k)) (heo : puEo (puX n G) (puCan n G).1 eo) {pn tn nc : Int32} (hpn : pn = puI (n : Int)) (htn : tn = puI (n : Int)) (hnc : nc = puI (puN (puX n G) (puCan n G).1 : Int)) : ∃ (m : Nat) (f : Int), co_m n (bl_f n G) m f ∧ fX5_blame pn l tn bu eo nc = some (puI f) := by
  have hn := hv.1
  have cn := puN_le (puX n G) (puCan n G).1
  have key : puOk (xsWh (fun s4 => fX5_blame_L6 pn l tn bu eo nc s4.1 s4.2.1 s4.2.2) ((-1 : Int32), (-1 : Int32), (0 : Int32))) (fun r => ∃ (m : Nat) (f : Int), co_m n (bl_f n G) m f ∧ r = puI f) := by
    refine puFor1 n (fun m z => z.2.2 = puI (m : Int) ∧ ((m = 0 ∧ z.1 = puI (-1) ∧ z.2.1 = puI (-1)) ∨ ∃ e : Nat, e < m ∧ z.1 = puI (e : Int) ∧ z.2.1 = puI (bl_f n G e : Int) ∧ (∀ i, i < e → bl_f n G i < bl_f n G e) ∧ ∀ i, i < m → bl_f n G i ≤ bl_f n G e)) _ ⟨rfl, Or.inl ⟨rfl, rfl, rfl⟩⟩ ?_ ?_
    · rintro m ⟨y1, y2, y3⟩ hm ⟨q1, q2⟩
      simp only at q1 q2
      subst q1
      have bm := bl_f_le n G m
      simp only [fX5_blame_L6]
      rw [pu_goz hpn hm (by omega), p_fewer hv hN hl hb heo htn hnc hm, xsBd_sm]
      rcases q2 with ⟨z, q2, q3⟩ | ⟨e, e1, q2, q3, e4, e5⟩
      · subst z; subst q2; subst q3
        rw [xsBr_neg (by rw [puI_le (by omega) (by omega) (by omega) (by omega)]; omega), xsBd_sm]
        simp only [fX5_blame_J32]
        rw [xsLt_eq, puI_s1]
        refine ⟨_, rfl, rfl, Or.inr ⟨0, by omega, rfl, rfl, fun i hi => by omega, fun i hi => ?_⟩⟩
        obtain rfl : i = 0 := by omega
        exact Nat.le_refl _
      · subst q2; subst q3
        have be := bl_f_le n G e
        by_cases c : bl_f n G m ≤ bl_f n G e
        · rw [xsBr_pos ((puI_leN (by omega) (by omega)).mpr c), xsBd_sm]
          simp only [fX5_blame_J32]
          rw [xsLt_eq, puI_s1]
          refine ⟨_, rfl, rfl, Or.inr ⟨e, by omega, rfl, rfl, e4, fun i hi => ?_⟩⟩
          by_cases z : i = m
          · subst z; exact c
          · exact e5 i (by omega)
        · rw [xsBr_neg (fun q => c ((puI_leN (by omega) (by omega)).mp q)), xsBd_sm]
          simp only [fX5_blame_J32]
          rw [xsLt_eq, puI_s1]
          refine ⟨_, rfl, rfl, Or.inr ⟨m, by omega, rfl, rfl, fun i hi => ?_, fun i hi => ?_⟩⟩
          · have := e5 i hi; omega
          · by_cases z : i = m
            · subst z; exact Nat.le_refl _
            · have := e5 i (by omega); omega
    · rintro ⟨y1, y2, y3⟩ ⟨q1, q2⟩
      simp only at q1 q2
      subst q1
      simp only [fX5_blame_L6]
      rw [hpn, pu_out (by omega)]
      rcases q2 with ⟨z, q2, q3⟩ | ⟨e, e1, q2, q3, e4, e5⟩
      · exact ⟨_, rfl, 0, -1, Or.inl ⟨z, rfl, rfl⟩, q2⟩
      · exact ⟨_, rfl, _, _, Or.inr ⟨e, e1, rfl, rfl, e4, e5⟩, q2⟩
  obtain ⟨r, er, m, f, h1, rfl⟩ := key
  refine ⟨m, f, h1, ?_⟩
  unfold fX5_blame
  rw [xsBd_some er]
  rfl
theorem bl_24 (c s : Nat) : (24 : Int32) * puI (c : Int) + puI (s : Int) = puI ((24 * c + s : Nat) : Int) := by rw [show (24 : Int32) = puI 24 by rfl, puI_mul, puI_add]; congr 1
theorem p_bl19 {c : Nat} (hc : c < 324) {f : Nat → Int32} : puOk (xsWh (fun s131 => fX11_blame_L19 (puI (c : Int)) s131.1 s131.2) ((0 : Int32), f)) (fun r => (∀ s, s < 24 → r (24 * c + s) = 0) ∧ ∀ j, j < 24 * c → r j = f j) := by
  refine puFor1 24 (fun k z => z.1 = puI (k : Int) ∧ (∀ s, s < k → z.2 (24 * c + s) = 0) ∧ ∀ j, j < 24 * c → z.2 j = f j) _ ⟨rfl, fun s hs => by omega, fun j _ => rfl⟩ ?_ ?_
  · rintro k ⟨y, g⟩ hk ⟨q1, q2, q3⟩
    simp only at q1 q2 q3
    subst q1
    simp only [fX11_blame_L19]
    rw [xsBr_neg (by rw [show (24 : Int32) = puI ((24 : Nat) : Int) by rfl, puI_leN (by omega) (by omega)]; omega), bl_24, xsCk_in (by omega) (by omega) (by omega), xsLt_eq, xsLt_eq, puI_s1, puI_clN (by omega)]
    refine ⟨_, rfl, rfl, fun s hs => ?_, fun j hj => ?_⟩
    · dsimp only
      by_cases e : s = k
      · subst e; rw [puUpd_eq]
      · rw [puUpd_ne (by omega)]; exact q2 s (by omega)
    · dsimp only
      rw [puUpd_ne (by omega)]; exact q3 j hj
  · rintro ⟨y, g⟩ ⟨q1, q2, q3⟩
    simp only at q1 q2 q3
    subst q1
    simp only [fX11_blame_L19]
    rw [xsBr_pos (by rw [show (24 : Int32) = puI ((24 : Nat) : Int) by rfl, puI_leN (by omega) (by omega)]; omega)]
    exact ⟨_, rfl, q2, q3⟩
theorem p_bl2 {nc : Nat} (hnc : nc ≤ 324) {f g : Nat → Int32} : puOk (xsWh (fun s4 => fX11_blame_L2 (puI (nc : Int)) s4.1 s4.2.1 s4.2.2) ((0 : Int32), f, g)) (fun r => ∀ c, c < nc → r.1 c = 0 ∧ ∀ s, s < 24 → r.2 (24 * c + s) = 0) := by
  refine puFor1 nc (fun k z => z.1 = puI (k : Int) ∧ ∀ c, c < k → z.2.1 c = 0 ∧ ∀ s, s < 24 → z.2.2 (24 * c + s) = 0) _ ⟨rfl, fun c hc => by omega⟩ ?_ ?_
  · rintro k ⟨y, f, g⟩ hk ⟨q1, q2⟩
    simp only at q1 q2
    subst q1
    obtain ⟨r, er, h1, h2⟩ := p_bl19 (c := k) (by omega) (f := g)
    simp only [fX11_blame_L2]
    rw [pu_go hk (by omega), xsCk_in (by omega) (by omega) (by omega), xsLt_eq, xsBd_some er, puI_clN (by omega)]
    simp only [fX11_blame_J43]
    rw [xsLt_eq, puI_s1]
    refine ⟨_, rfl, rfl, fun c hc => ?_⟩
    dsimp only
    by_cases e : c = k
    · subst e; exact ⟨puUpd_eq _ _ _, h1⟩
    · obtain ⟨k1, k2⟩ := q2 c (by omega)
      refine ⟨(puUpd_ne e).trans k1, fun s hs => ?_⟩
      rw [h2 _ (by omega)]; exact k2 s hs
  · rintro ⟨y, f, g⟩ ⟨q1, q2⟩
    simp only at q1 q2
    subst q1
    simp only [fX11_blame_L2]
    rw [pu_out (by omega)]
    exact ⟨_, rfl, q2⟩
/-- the reference's EVENTS as they stand -/
def bl_E (n : Nat) (G : puG) (ex ey ed : Nat → Int64) (sz : Int32) (cr : Nat → Int32) : Prop := puEvs (puCan n G).1 (puCan n G).2 ex ey ed ∧ sz = puI ((puCan n G).1 : Int) ∧ ∀ k, k < (puCan n G).1 → cr k = puI (puXo (puX n G) k)
/-- what is counted, as far as pairs were told -/
def bl_C (n : Nat) (G : puG) (a j : Nat) (ym yo : Nat → Int32) : Prop := ∀ e, e < (puCan n G).1 → puX n G e → ym (puN (puX n G) e) = puI ((puPr a (bl_R n G e) + puN (bl_R n G e a) j : Nat) : Int) ∧ ∀ s, s < 24 → yo (24 * puN (puX n G) e + s) = puI ((puPr a (bl_S n G e s) + puN (bl_S n G e s a) j : Nat) : Int)
theorem p_stands0 {n : Nat} {G : puG} (ho : puOkP n G) (hN : (puCan n G).1 ≤ 324) {ex ey ed : Nat → Int64} {sz : Int32} {cr : Nat → Int32} (hE : bl_E n G ex ey ed sz cr) {p : puP} {a0 a1 a2 : Int64} (hr : puRep a0 a1 a2 p) (hp : puMe (puCan n G).1 (puCan n G).2 p) : puOk (fX11_stands ex ey ed sz cr a0 a1 a2) (fun o => bl_E n G o.2.1 o.2.2.1 o.2.2.2.1 o.2.2.2.2.1 o.2.2.2.2.2 ∧ ∃ j, j < (puCan n G).1 ∧ o.1 = puI (j : Nat) ∧ (puCan n G).2 j = p) := by
  obtain ⟨h1, rfl, h3⟩ := hE
  have so := ho.2.1
  obtain ⟨o, eo, M, Q, o5, k1, k2, k3, k4, ⟨j, j1, j2, j3⟩, k6⟩ := p_stands (cr := cr) (f := fun q => puE (puMe (puCan n G).1 (puCan n G).2 q) (puI (puXo (puX n G) (puIx (puCan n G).1 (puCan n G).2 q))) (-1 : Int32)) h1 so hr (by omega) (fun e he => by
    rw [puE_pos ⟨e, he, rfl⟩, puIx_at so he]; exact h3 e he) (fun q => absurd hp q)
  obtain ⟨eM, eQ⟩ := puSo_uniq k2 so (fun q => by
    rw [k3 q]
    exact ⟨fun z => z.elim (fun z => by rw [z]; exact hp) id, Or.inr⟩)
  subst eM
  refine ⟨o, eo, ⟨?_, o5, fun k hk => ?_⟩, j, j1, j2, ?_⟩
  · intro k hk
    have := k1 k hk
    rw [eQ k hk] at this
    exact this
  · rw [k6 k hk, eQ k hk, puE_pos ⟨k, hk, rfl⟩, puIx_at so hk]
  · rw [← eQ j j1]; exact j3
theorem p_bl61 {n : Nat} {G : puG} {w : Nat → Int32} (hv : puVal n G) (hw : puMW n G w) (ho : puOkP n G) (hN : (puCan n G).1 ≤ 324) {a : Nat} (ha : a < n) {one two sh : Nat → Int32} {x y d : Int64} {ex ey ed : Nat → Int64} {sz : Int32} {cr ym yo : Nat → Int32} (hE : bl_E n G ex ey ed sz cr) (hC : bl_C n G a 0 ym yo) :
    puOk (xsWh (fun s81 => fX11_blame_L61 w (puI (a : Int)) s81.1 s81.2.1 s81.2.2.1 s81.2.2.2.1 s81.2.2.2.2.1 s81.2.2.2.2.2.1 s81.2.2.2.2.2.2.1 s81.2.2.2.2.2.2.2.1 s81.2.2.2.2.2.2.2.2.1 s81.2.2.2.2.2.2.2.2.2.1 s81.2.2.2.2.2.2.2.2.2.2.1 s81.2.2.2.2.2.2.2.2.2.2.2.1 s81.2.2.2.2.2.2.2.2.2.2.2.2.1 s81.2.2.2.2.2.2.2.2.2.2.2.2.2) ((0 : Int32), one, two, sh, x, y, d, ex, ey, ed, sz, cr, ym, yo)) (fun r => bl_E n G r.2.2.2.2.2.2.1 r.2.2.2.2.2.2.2.1 r.2.2.2.2.2.2.2.2.1 r.2.2.2.2.2.2.2.2.2.1 r.2.2.2.2.2.2.2.2.2.2.1 ∧ bl_C n G a a r.2.2.2.2.2.2.2.2.2.2.2.1 r.2.2.2.2.2.2.2.2.2.2.2.2) := by
  have hn := hv.1
  refine puFor1 a (fun j z => z.1 = puI (j : Int) ∧ bl_E n G z.2.2.2.2.2.2.2.1 z.2.2.2.2.2.2.2.2.1 z.2.2.2.2.2.2.2.2.2.1 z.2.2.2.2.2.2.2.2.2.2.1 z.2.2.2.2.2.2.2.2.2.2.2.1 ∧ bl_C n G a j z.2.2.2.2.2.2.2.2.2.2.2.2.1 z.2.2.2.2.2.2.2.2.2.2.2.2.2) _ ⟨rfl, hE, hC⟩ ?_ ?_
  · rintro j ⟨y0, one, two, sh, x, y, d, ex, ey, ed, sz, cr, ym, yo⟩ hj ⟨q1, hE, hC⟩
    simp only at q1 hE hC
    subst q1
    obtain ⟨o, eo, o0, o1, -⟩ := p_sharesOf hv hw ha (show j < n by omega) (one := one) (two := two) (sh := sh) (x := x) (y := y) (d := d)
    simp only at o0 o1
    have kl := puKd_le (G a) (G j)
    simp only [fX11_blame_L61]
    rw [pu_go hj (by omega), xsBd_some eo, o0]
    by_cases c : puKd (G a) (G j) = 1
    case neg =>
      rw [xsBr_neg (by rw [show (1 : Int32) = puI ((1 : Nat) : Int) by rfl, puI_eqN (by omega) (by omega)]; exact c), xsBd_sm]
      simp only [fX11_blame_J141]
      rw [xsLt_eq, puI_s1]
      refine ⟨_, rfl, rfl, hE, fun e he hX => ?_⟩
      obtain ⟨h1, h2⟩ := hC e he hX
      dsimp only
      refine ⟨?_, fun s hs => ?_⟩
      · rw [puN_n (fun z => c z.1)]; exact h1
      · rw [puN_n (fun z => c z.1.1)]; exact h2 s hs
    have cX : puCr n G (puMp (G a) (G j)) := ⟨a, j, hj, ha, c, rfl⟩
    obtain ⟨v, ev, hE2, e0, he0, v0, pe⟩ := p_stands0 ho hN hE (o1 c) ((ho.2.2 _).mpr (Or.inr cX))
    have X0 : puX n G e0 := by show puCr n G _; rw [pe]; exact cX
    have cr0 := hE2.2.2 e0 he0
    have nl := puN_le (puX n G) e0
    have xo : puXo (puX n G) e0 = (puN (puX n G) e0 : Int) := puE_pos X0
    rw [xo] at cr0
    rw [xsBr_pos (by rw [c]; rfl), xsBd_some ev, v0]
    rw [xsCk_in (by omega) (by omega) (by omega), puI_clN (by omega), cr0, xsLt_eq]
    simp only [bl_24]
    simp (disch := omega) only [xsCk_in, xsLt_eq, puI_clN]
    rw [xsBd_sm]
    simp only [fX11_blame_J141]
    rw [xsLt_eq, puI_s1]
    refine ⟨_, rfl, rfl, hE2, fun e he hX => ?_⟩
    obtain ⟨h1, h2⟩ := hC e he hX
    obtain ⟨g1, g2⟩ := hC e0 he0 X0
    dsimp only
    by_cases ee : e = e0
    · subst ee
      have rt : bl_R n G e a j := ⟨c, pe.symm⟩
      refine ⟨?_, fun s hs => ?_⟩
      · rw [puUpd_eq, h1, puI_s1, puN_y rt, Nat.add_assoc]
      · by_cases sj : s = j
        · subst sj
          rw [puUpd_eq, puUpd_ne (by omega), h2 s hs, puI_s1, puN_y (P := bl_S n G e s a) ⟨rt, Or.inr rfl⟩, Nat.add_assoc]
        · rw [puUpd_ne (by omega)]
          by_cases sa : s = a
          · subst sa
            rw [puUpd_eq, h2 s hs, puI_s1, puN_y (P := bl_S n G e s s) ⟨rt, Or.inl rfl⟩, Nat.add_assoc]
          · rw [puUpd_ne (by omega), h2 s hs, puN_n (P := bl_S n G e s a) (fun z => z.2.elim (fun z => sa z.symm) (fun z => sj z.symm))]
    · have nc : puN (puX n G) e ≠ puN (puX n G) e0 := fun z => ee (puN_inj hX X0 z)
      have rf : ¬ bl_R n G e a j := fun z => ee (puSo_inj ho.2.1 he he0 (z.2.symm.trans pe.symm))
      refine ⟨?_, fun s hs => ?_⟩
      · rw [puUpd_ne nc, h1, puN_n rf]
      · rw [puUpd_ne (by omega), puUpd_ne (by omega), h2 s hs, puN_n (P := bl_S n G e s a) (fun z => rf z.1)]
  · rintro ⟨y0, one, two, sh, x, y, d, ex, ey, ed, sz, cr, ym, yo⟩ ⟨q1, hE, hC⟩
    simp only at q1 hE hC
    subst q1
    simp only [fX11_blame_L61]
    rw [pu_out (by omega)]
    exact ⟨_, rfl, hE, hC⟩
theorem p_bl51 {n : Nat} {G : puG} {w : Nat → Int32} (hv : puVal n G) (hw : puMW n G w) (ho : puOkP n G) (hN : (puCan n G).1 ≤ 324) {one two sh : Nat → Int32} {x y d : Int64} {ex ey ed : Nat → Int64} {sz : Int32} {cr ym yo : Nat → Int32} (hE : bl_E n G ex ey ed sz cr) (hC : bl_C n G 0 0 ym yo) :
    puOk (xsWh (fun s21 => fX11_blame_L51 w s21.1 s21.2.1 s21.2.2.1 s21.2.2.2.1 s21.2.2.2.2.1 s21.2.2.2.2.2.1 s21.2.2.2.2.2.2.1 s21.2.2.2.2.2.2.2.1 s21.2.2.2.2.2.2.2.2.1 s21.2.2.2.2.2.2.2.2.2.1 s21.2.2.2.2.2.2.2.2.2.2.1 s21.2.2.2.2.2.2.2.2.2.2.2.1 s21.2.2.2.2.2.2.2.2.2.2.2.2.1 s21.2.2.2.2.2.2.2.2.2.2.2.2.2) ((0 : Int32), one, two, sh, x, y, d, ex, ey, ed, sz, cr, ym, yo)) (fun r => bl_E n G r.2.2.2.2.2.2.1 r.2.2.2.2.2.2.2.1 r.2.2.2.2.2.2.2.2.1 r.2.2.2.2.2.2.2.2.2.1 r.2.2.2.2.2.2.2.2.2.2.1 ∧ bl_C n G n 0 r.2.2.2.2.2.2.2.2.2.2.2.1 r.2.2.2.2.2.2.2.2.2.2.2.2) := by
  have hn := hv.1
  refine puFor1 n (fun j z => z.1 = puI (j : Int) ∧ bl_E n G z.2.2.2.2.2.2.2.1 z.2.2.2.2.2.2.2.2.1 z.2.2.2.2.2.2.2.2.2.1 z.2.2.2.2.2.2.2.2.2.2.1 z.2.2.2.2.2.2.2.2.2.2.2.1 ∧ bl_C n G j 0 z.2.2.2.2.2.2.2.2.2.2.2.2.1 z.2.2.2.2.2.2.2.2.2.2.2.2.2) _ ⟨rfl, hE, hC⟩ ?_ ?_
  · rintro j ⟨y0, one, two, sh, x, y, d, ex, ey, ed, sz, cr, ym, yo⟩ hj ⟨q1, hE, hC⟩
    simp only at q1 hE hC
    subst q1
    obtain ⟨r, er, h1, h2⟩ := p_bl61 hv hw ho hN hj hE hC (one := one) (two := two) (sh := sh) (x := x) (y := y) (d := d)
    simp only [fX11_blame_L51]
    rw [p_many hw, xsBd_sm, pu_go hj (by omega), xsBd_some er]
    simp only [fX11_blame_J147]
    rw [xsLt_eq, puI_s1]
    exact ⟨_, rfl, rfl, h1, h2⟩
  · rintro ⟨y0, one, two, sh, x, y, d, ex, ey, ed, sz, cr, ym, yo⟩ ⟨q1, hE, hC⟩
    simp only at q1 hE hC
    subst q1
    simp only [fX11_blame_L51]
    rw [p_many hw, xsBd_sm, pu_out (by omega)]
    exact ⟨_, rfl, hE, hC⟩
theorem bl_more {n : Nat} {G : puG} {s e : Nat} : puPr n (bl_R n G e) ≤ puPr n (bl_S n G e s) ↔ ¬ bl_k n G s e := by
  have h := puPr_split (n := n) (A := bl_R n G e) (B := fun a b => a = s ∨ b = s)
  have h2 : puPr n (fun a b => bl_R n G e a b ∧ (a = s ∨ b = s)) = puPr n (bl_S n G e s) := rfl
  have h3 : 0 < puPr n (fun a b => bl_R n G e a b ∧ ¬ (a = s ∨ b = s)) ↔ bl_k n G s e := puPr_pos
  rw [← h3]
  omega
theorem p_bl173 {n : Nat} {G : puG} (hn : n ≤ 24) (hN : (puCan n G).1 ≤ 324) {ym yo : Nat → Int32} (hC : bl_C n G n 0 ym yo) {s : Nat} (hs : s < n) : xsWh (fun s44 => fX11_blame_L173 (puI (puN (puX n G) (puCan n G).1 : Int)) ym yo (puI (s : Int)) s44.1 s44.2) ((0 : Int32), (0 : Int32)) = some (puI ((puN (puX n G) (puCan n G).1 - bl_f n G s : Nat) : Int)) := by
  have cn := puN_le (puX n G) (puCan n G).1
  have nn : n * n ≤ 24 * 24 := Nat.mul_le_mul hn hn
  have key : puOk (xsWh (fun s44 => fX11_blame_L173 (puI (puN (puX n G) (puCan n G).1 : Int)) ym yo (puI (s : Int)) s44.1 s44.2) ((0 : Int32), (0 : Int32))) (fun r => r = puI (puN (fun c => ¬ cp (puX n G) (fun e => ¬ bl_k n G s e) c) (puN (puX n G) (puCan n G).1) : Int)) := by
    refine puFor1 (puN (puX n G) (puCan n G).1) (fun m z => z.2 = puI (m : Int) ∧ z.1 = puI (puN (fun c => ¬ cp (puX n G) (fun e => ¬ bl_k n G s e) c) m : Int)) _ ⟨rfl, rfl⟩ ?_ ?_
    · rintro m ⟨y1, y2⟩ hm ⟨q1, q2⟩
      simp only at q1 q2
      subst q1; subst q2
      obtain ⟨e, he, hX, hc⟩ := puN_kth hm
      obtain ⟨h1, h2⟩ := hC e he hX
      have h3 := h2 s (by omega)
      rw [hc, puN_0, Nat.add_zero] at h1 h3
      have b1 := puPr_le n (bl_R n G e)
      have b2 := puPr_le n (bl_S n G e s)
      have at1 := cp_at (Q := fun e => ¬ bl_k n G s e) hX hc
      simp only [fX11_blame_L173]
      rw [pu_go hm (by omega), bl_24, xsCk_in (by omega) (by omega) (by omega), xsCk_in (by omega) (by omega) (by omega), puI_clN (by omega), puI_clN (by omega), h1, h3, xsBr_01, xsBd_sm, puB_iff (not_congr (puI_leN (a := puPr n (bl_R n G e)) (b := puPr n (bl_S n G e s)) (by omega) (by omega)))]
      simp only [fX11_blame_J211]
      rw [xsLt_eq, xsLt_eq, puI_s1]
      refine ⟨_, rfl, rfl, ?_⟩
      dsimp only
      by_cases c : puPr n (bl_R n G e) ≤ puPr n (bl_S n G e s)
      · have d := at1.mpr (bl_more.mp c)
        rw [puB_neg (fun q => q c), puI_a0, puN_n (P := fun c => ¬ cp (puX n G) (fun e => ¬ bl_k n G s e) c) (fun q => q d)]
      · have d : ¬ cp (puX n G) (fun e => ¬ bl_k n G s e) m := fun q => c (bl_more.mpr (at1.mp q))
        rw [puB_pos c, puI_s1, puN_y (P := fun c => ¬ cp (puX n G) (fun e => ¬ bl_k n G s e) c) d]
    · rintro ⟨y1, y2⟩ ⟨q1, q2⟩
      simp only at q1 q2
      subst q1; subst q2
      simp only [fX11_blame_L173]
      rw [pu_out (by omega)]
      exact ⟨_, rfl, rfl⟩
  obtain ⟨r, er, rfl⟩ := key
  rw [er]
  have sp := puN_split (P := fun _ => True) (Q := cp (puX n G) (fun e => ¬ bl_k n G s e)) (n := puN (puX n G) (puCan n G).1)
  rw [puN_all (fun _ _ => trivial)] at sp
  have e1 : puN (fun k => True ∧ cp (puX n G) (fun e => ¬ bl_k n G s e) k) (puN (puX n G) (puCan n G).1) = bl_f n G s := puN_c (fun k _ => ⟨fun q => q.2, fun q => ⟨trivial, q⟩⟩)
  have e2 : puN (fun k => True ∧ ¬ cp (puX n G) (fun e => ¬ bl_k n G s e) k) (puN (puX n G) (puCan n G).1) = puN (fun c => ¬ cp (puX n G) (fun e => ¬ bl_k n G s e) c) (puN (puX n G) (puCan n G).1) := puN_c (fun k _ => ⟨fun q => q.2, fun q => ⟨trivial, q⟩⟩)
  rw [e1, e2] at sp
  exact congrArg (fun z : Nat => some (puI (z : Int))) (by omega)
theorem p_bl159 {n : Nat} {G : puG} {w : Nat → Int32} (hv : puVal n G) (hw : puMW n G w) (hN : (puCan n G).1 ≤ 324) {ym yo : Nat → Int32} (hC : bl_C n G n 0 ym yo) : puOk (xsWh (fun s38 => fX11_blame_L159 w (puI (puN (puX n G) (puCan n G).1 : Int)) ym yo s38.1 s38.2.1 s38.2.2) ((-1 : Int32), (0 : Int32), (0 : Int32))) (fun r => ∃ (m : Nat) (f : Int), co_m n (bl_f n G) m f ∧ r = puI f) := by
  have hn := hv.1
  have cn := puN_le (puX n G) (puCan n G).1
  refine puFor1 n (fun m z => z.2.2 = puI (m : Int) ∧ ((m = 0 ∧ z.1 = puI (-1)) ∨ ∃ e : Nat, e < m ∧ z.1 = puI (e : Int) ∧ z.2.1 = puI ((puN (puX n G) (puCan n G).1 - bl_f n G e : Nat) : Int) ∧ (∀ i, i < e → bl_f n G i < bl_f n G e) ∧ ∀ i, i < m → bl_f n G i ≤ bl_f n G e)) _ ⟨rfl, Or.inl ⟨rfl, rfl⟩⟩ ?_ ?_
  · rintro m ⟨y1, y2, y3⟩ hm ⟨q1, q2⟩
    simp only at q1 q2
    subst q1
    have bm := bl_f_le n G m
    simp only [fX11_blame_L159]
    rw [p_many hw, xsBd_sm, pu_go hm (by omega), p_bl173 hn hN hC hm, xsBd_sm]
    unfold fX11_blame_J220
    rw [show (-1 : Int32) = puI (-1) by rfl]
    rcases q2 with ⟨z, q2⟩ | ⟨e, e1, q2, q3, e4, e5⟩
    · subst z; subst q2
      rw [xsBr_pos rfl, xsBd_sm]
      simp only [fX11_blame_J239]
      rw [xsLt_eq, puI_s1]
      refine ⟨_, rfl, rfl, Or.inr ⟨0, by omega, rfl, rfl, fun i hi => by omega, fun i hi => ?_⟩⟩
      obtain rfl : i = 0 := by omega
      exact Nat.le_refl _
    · subst q2; subst q3
      have be := bl_f_le n G e
      rw [xsBr_neg (by rw [puI_eq (by omega) (by omega) (by omega) (by omega)]; omega)]
      by_cases c : puN (puX n G) (puCan n G).1 - bl_f n G m < puN (puX n G) (puCan n G).1 - bl_f n G e
      · rw [xsBr_pos ((puI_ltN (by omega) (by omega)).mpr c), xsBd_sm]
        simp only [fX11_blame_J239]
        rw [xsLt_eq, puI_s1]
        refine ⟨_, rfl, rfl, Or.inr ⟨m, by omega, rfl, rfl, fun i hi => ?_, fun i hi => ?_⟩⟩
        · have := e5 i hi; omega
        · by_cases z : i = m
          · subst z; exact Nat.le_refl _
          · have := e5 i (by omega); omega
      · rw [xsBr_neg (fun q => c ((puI_ltN (by omega) (by omega)).mp q)), xsBd_sm]
        simp only [fX11_blame_J239]
        rw [xsLt_eq, puI_s1]
        refine ⟨_, rfl, rfl, Or.inr ⟨e, by omega, rfl, rfl, e4, fun i hi => ?_⟩⟩
        by_cases z : i = m
        · subst z; omega
        · exact e5 i (by omega)
  · rintro ⟨y1, y2, y3⟩ ⟨q1, q2⟩
    simp only at q1 q2
    subst q1
    simp only [fX11_blame_L159]
    rw [p_many hw, xsBd_sm, pu_out (by omega)]
    rcases q2 with ⟨z, q2⟩ | ⟨e, e1, q2, q3, e4, e5⟩
    · exact ⟨_, rfl, 0, -1, Or.inl ⟨z, rfl, rfl⟩, q2⟩
    · exact ⟨_, rfl, _, _, Or.inr ⟨e, e1, rfl, rfl, e4, e5⟩, q2⟩
theorem p_blameM {n : Nat} {G : puG} {w : Nat → Int32} (hv : puVal n G) (hw : puMW n G w) (ho : puOkP n G) (hN : (puCan n G).1 ≤ 324) {one two sh : Nat → Int32} {x y d : Int64} {ex ey ed : Nat → Int64} {sz nc : Int32} {cr ym yo : Nat → Int32} (hE : bl_E n G ex ey ed sz cr) (hnc : nc = puI (puN (puX n G) (puCan n G).1 : Int)) :
    puOk (fX11_blame w one two sh x y d ex ey ed sz cr nc ym yo) (fun o => (∃ (m : Nat) (f : Int), co_m n (bl_f n G) m f ∧ o.1 = puI f) ∧ bl_E n G o.2.2.2.2.2.2.2.1 o.2.2.2.2.2.2.2.2.1 o.2.2.2.2.2.2.2.2.2.1 o.2.2.2.2.2.2.2.2.2.2.1 o.2.2.2.2.2.2.2.2.2.2.2.1) := by
  subst hnc
  have cn := puN_le (puX n G) (puCan n G).1
  obtain ⟨r, er, hr⟩ := p_bl2 (nc := puN (puX n G) (puCan n G).1) (by omega) (f := ym) (g := yo)
  have c0 : bl_C n G 0 0 r.1 r.2 := fun e he hX => by
    obtain ⟨h1, h2⟩ := hr _ (puN_lt he hX)
    exact ⟨h1, fun s hs => h2 s hs⟩
  obtain ⟨r2, er2, k1, k2⟩ := p_bl51 hv hw ho hN hE c0 (one := one) (two := two) (sh := sh) (x := x) (y := y) (d := d)
  obtain ⟨r3, er3, k3⟩ := p_bl159 hv hw hN k2
  unfold fX11_blame
  rw [xsBd_some er]
  unfold fX11_blame_J49
  rw [xsBd_some er2]
  unfold fX11_blame_J153
  rw [xsBd_some er3]
  exact puOk_some ⟨k3, k1⟩
