/-! PURE: CROSSINGS on a SEGMENT, its EVENTS, TINTED -/
def cp (C Q : Nat → Prop) (c : Nat) : Prop := ∃ e, C e ∧ puN C e = c ∧ Q e
theorem cp_at {C Q : Nat → Prop} {e c : Nat} (h : C e) (hc : puN C e = c) : cp C Q c ↔ Q e := by
  constructor
  · rintro ⟨e', h1, h2, h3⟩
    have : e' = e := puN_inj h1 h (h2.trans hc.symm)
    rw [← this]; exact h3
  · exact fun q => ⟨e, h, hc, q⟩
theorem puN_cp {C Q : Nat → Prop} : ∀ N, puN (cp C Q) (puN C N) = puN (fun e => C e ∧ Q e) N
  | 0 => rfl
  | N + 1 => by
    have ih := puN_cp (C := C) (Q := Q) N
    by_cases c : C N
    · rw [puN_y c]
      by_cases q : Q N
      · rw [puN_y ((cp_at c rfl).mpr q), ih, puN_y ⟨c, q⟩]
      · rw [puN_n (fun z => q ((cp_at c rfl).mp z)), ih, puN_n (fun z => q z.2)]
    · rw [puN_n c, ih, puN_n (fun z => c z.1)]
theorem puI_nz {z : Int} (h : z ≠ 0) (h1 : -4294967296 < z) (h2 : z < 4294967296) : ¬ puI z = 0 := by
  intro e
  have e2 : (puI z).toInt = 0 := by rw [e]; rfl
  unfold puI at e2
  rw [Int32.toInt_ofInt] at e2
  obtain ⟨c, hc⟩ := Int.dvd_of_bmod_eq_zero e2
  have hc2 : z = 4294967296 * c := hc
  omega
theorem p_crOn {N : Nat} {C : Nat → Prop} {O : Nat → Nat → Prop} {bu eo : Nat → Int32} (hN : N ≤ 324) (hb : ∀ k, k < N → puSt (bu k) (fun s => O s k)) (heo : puEo C N eo) {nc : Int32} (hnc : nc = puI (puN C N : Int)) {s : Nat} (hs : s < 24) : fX1_crossingsOn bu eo nc (puI (s : Int)) = some (puI (puN (fun e => C e ∧ O s e) N : Int)) := by
  subst hnc
  have cn := puN_le C N
  have key : puOk (xsWh (fun s3 => fX1_crossingsOn_L4 bu eo (puI (puN C N : Int)) (puI (s : Int)) s3.1 s3.2) ((0 : Int32), (0 : Int32))) (fun r => r = puI (puN (cp C (O s)) (puN C N) : Int)) := by
    refine puFor1 (puN C N) (fun m z => z.2 = puI (m : Int) ∧ z.1 = puI (puN (cp C (O s)) m : Int)) _ ⟨rfl, rfl⟩ ?_ ?_
    · rintro m ⟨y1, y2⟩ hm ⟨q1, q2⟩
      simp only at q1 q2
      subst q1; subst q2
      obtain ⟨e, he, hC, hc⟩ := puN_kth hm
      have q := heo e he hC
      rw [hc] at q
      simp only [fX1_crossingsOn_L4]
      rw [pu_go hm (by omega), xsCk_in (by omega) (by omega) (by omega), puI_clN (by omega), q, xsCk_in (by omega) (by omega) (by omega), puI_clN (by omega), pu_has _ (by omega), puB_iff ((hb e he s (by omega)).trans (cp_at hC hc).symm), xsBd_sm]
      by_cases c : cp C (O s) m
      · rw [pu_bt c, xsLt_eq, xsBd_sm]
        simp only [fX1_crossingsOn_J33]
        rw [xsLt_eq, puI_s1, puI_s1]
        exact ⟨_, rfl, rfl, by dsimp only; rw [puN_y c]⟩
      · rw [pu_bf c, xsBd_sm]
        simp only [fX1_crossingsOn_J33]
        rw [xsLt_eq, puI_s1]
        exact ⟨_, rfl, rfl, by dsimp only; rw [puN_n c]⟩
    · rintro ⟨y1, y2⟩ ⟨q1, q2⟩
      simp only at q1 q2
      subst q1; subst q2
      simp only [fX1_crossingsOn_L4]
      rw [pu_out (by omega)]
      exact ⟨_, rfl, rfl⟩
  obtain ⟨r, er, rfl⟩ := key
  unfold fX1_crossingsOn
  rw [xsBd_some er, puN_cp]
  rfl
theorem p_evOn {N : Nat} {O : Nat → Nat → Prop} {bu : Nat → Int32} (hN : N ≤ 324) (hb : ∀ k, k < N → puSt (bu k) (fun s => O s k)) {sz : Int32} (hsz : sz = puI (N : Int)) {s : Nat} (hs : s < 24) : fX1_eventsOn bu sz (puI (s : Int)) = some (puI (puN (O s) N : Int)) := by
  subst hsz
  have key : puOk (xsWh (fun s3 => fX1_eventsOn_L4 bu (puI (N : Int)) (puI (s : Int)) s3.1 s3.2) ((0 : Int32), (0 : Int32))) (fun r => r = puI (puN (O s) N : Int)) := by
    refine puFor1 N (fun m z => z.2 = puI (m : Int) ∧ z.1 = puI (puN (O s) m : Int)) _ ⟨rfl, rfl⟩ ?_ ?_
    · rintro m ⟨y1, y2⟩ hm ⟨q1, q2⟩
      simp only at q1 q2
      subst q1; subst q2
      simp only [fX1_eventsOn_L4]
      rw [pu_go hm (by omega), xsCk_in (by omega) (by omega) (by omega), puI_clN (by omega), pu_has _ (by omega), puB_iff (hb m hm s (by omega)), xsBd_sm]
      by_cases c : O s m
      · rw [pu_bt c, xsLt_eq, xsBd_sm]
        simp only [fX1_eventsOn_J28]
        rw [xsLt_eq, puI_s1, puI_s1]
        exact ⟨_, rfl, rfl, by dsimp only; rw [puN_y c]⟩
      · rw [pu_bf c, xsBd_sm]
        simp only [fX1_eventsOn_J28]
        rw [xsLt_eq, puI_s1]
        exact ⟨_, rfl, rfl, by dsimp only; rw [puN_n c]⟩
    · rintro ⟨y1, y2⟩ ⟨q1, q2⟩
      simp only at q1 q2
      subst q1; subst q2
      simp only [fX1_eventsOn_L4]
      rw [pu_out (by omega)]
      exact ⟨_, rfl, rfl⟩
  obtain ⟨r, er, rfl⟩ := key
  unfold fX1_eventsOn
  rw [xsBd_some er]
  rfl
theorem puXo_ne {C : Nat → Prop} {k : Nat} (hk : k ≤ 1000) : puI (puXo C k) = (-1 : Int32) ↔ ¬ C k := by
  have := puN_le C k
  unfold puXo
  by_cases c : C k
  · rw [puE_pos c, show (-1 : Int32) = puI (-1) by rfl, puI_eq (by omega) (by omega) (by omega) (by omega)]
    exact ⟨fun q => by omega, fun q => absurd c q⟩
  · rw [puE_neg c]; exact ⟨fun _ => c, fun _ => rfl⟩
theorem p_mevOn9 {N : Nat} {C : Nat → Prop} {O : Nat → Nat → Prop} {o1 : _} (hN : N ≤ 324) (hsz : o1.2.2.2.2.2.2.2.2.2.2.1 = puI (N : Int)) (hb : ∀ k, k < N → puSt (o1.2.2.2.2.2.2.2.2.2.2.2.2.1 k) (fun s => O s k)) (hcr : ∀ k, k < N → o1.2.2.2.2.2.2.2.2.2.2.2.1 k = puI (puXo C k)) {s : Nat} (hs : s < 24) (all : Int32) : xsWh (fun s5 => fX11_eventsOn_L9 (puI (s : Int)) all o1 s5.1 s5.2) ((0 : Int32), (0 : Int32)) = some (puI (puN (fun e => O s e ∧ (all = 0 ∨ C e)) N : Int)) := by
  have key : puOk (xsWh (fun s5 => fX11_eventsOn_L9 (puI (s : Int)) all o1 s5.1 s5.2) ((0 : Int32), (0 : Int32))) (fun r => r = puI (puN (fun e => O s e ∧ (all = 0 ∨ C e)) N : Int)) := by
    refine puFor1 N (fun m z => z.2 = puI (m : Int) ∧ z.1 = puI (puN (fun e => O s e ∧ (all = 0 ∨ C e)) m : Int)) _ ⟨rfl, rfl⟩ ?_ ?_
    · rintro m ⟨y1, y2⟩ hm ⟨q1, q2⟩
      simp only at q1 q2
      subst q1; subst q2
      have e1 : xsBr (all = 0) (some (1 : Int32)) (xsCk (vp_in (puI (m : Int)) 330) (xsBr (o1.2.2.2.2.2.2.2.2.2.2.2.1 (puI (m : Int)).toNatClampNeg = (-1 : Int32)) (some (0 : Int32)) (some (1 : Int32)))) = some (puB (all = 0 ∨ C m)) := by
        rw [xsCk_in (by omega) (by omega) (by omega), puI_clN (by omega), hcr m hm]
        by_cases a : all = 0
        · rw [xsBr_pos a, puB_pos (Or.inl a)]
        · rw [xsBr_neg a, xsBr_iff (puXo_ne (by omega))]
          by_cases c : C m
          · rw [xsBr_neg (fun q => q c), puB_pos (Or.inr c)]
          · rw [xsBr_pos c, puB_neg (fun q => q.elim a c)]
      simp only [fX11_eventsOn_L9]
      rw [pu_goz hsz hm (by omega), xsCk_in (by omega) (by omega) (by omega), puI_clN (by omega), pu_holds _ (by omega), puB_iff (hb m hm s (by omega)), xsBd_sm]
      rw [puI_clN (by omega), xsCk_in (by omega) (by omega) (by omega)] at e1
      by_cases c : O s m
      · rw [pu_bt c]
        by_cases d : all = 0 ∨ C m
        · rw [xsCk_in (by omega) (by omega) (by omega), e1, xsBd_sm, puB_pos d]
          simp only [fX11_eventsOn_J53]
          rw [xsLt_eq, xsLt_eq, puI_s1, puI_s1]
          exact ⟨_, rfl, rfl, by dsimp only; rw [puN_y ⟨c, d⟩]⟩
        · rw [xsCk_in (by omega) (by omega) (by omega), e1, xsBd_sm, puB_neg d]
          simp only [fX11_eventsOn_J53]
          rw [xsLt_eq, xsLt_eq, puI_s1, puI_a0]
          exact ⟨_, rfl, rfl, by dsimp only; rw [puN_n (fun q => d q.2)]⟩
      · rw [pu_bf c, xsBd_sm]
        simp only [fX11_eventsOn_J53]
        rw [xsLt_eq, xsLt_eq, puI_s1, puI_a0]
        exact ⟨_, rfl, rfl, by dsimp only; rw [puN_n (fun q => c q.1)]⟩
    · rintro ⟨y1, y2⟩ ⟨q1, q2⟩
      simp only at q1 q2
      subst q1; subst q2
      simp only [fX11_eventsOn_L9]
      rw [hsz, pu_out (by omega)]
      exact ⟨_, rfl, rfl⟩
  obtain ⟨r, er, rfl⟩ := key
  exact er
/-- the k-th CROSSING on a SEGMENT -/
def cp_r (N : Nat) (C Q : Nat → Prop) (k : Int) (r : Int32) : Prop := (∃ e, e < N ∧ C e ∧ Q e ∧ (puN (fun e => C e ∧ Q e) e : Int) = k ∧ r = puI (puN C e : Int)) ∨ (¬ (0 ≤ k ∧ k < (puN (fun e => C e ∧ Q e) N : Int)) ∧ r = -1)
theorem cp_r_u {N : Nat} {C Q : Nat → Prop} {k : Int} {r q : Int32} (h : cp_r N C Q k r) (h2 : cp_r N C Q k q) : r = q := by
  rcases h with ⟨e, e1, e2, e3, e4, rfl⟩ | ⟨e1, rfl⟩
  · rcases h2 with ⟨f, f1, f2, f3, f4, rfl⟩ | ⟨f1, rfl⟩
    · have : e = f := puN_inj (C := fun e => C e ∧ Q e) ⟨e2, e3⟩ ⟨f2, f3⟩ (by omega)
      rw [this]
    · have := puN_lt (C := fun e => C e ∧ Q e) e1 ⟨e2, e3⟩
      exact absurd ⟨by omega, by omega⟩ f1
  · rcases h2 with ⟨f, f1, f2, f3, f4, rfl⟩ | ⟨f1, rfl⟩
    · have := puN_lt (C := fun e => C e ∧ Q e) f1 ⟨f2, f3⟩
      exact absurd ⟨by omega, by omega⟩ e1
    · rfl
theorem p_on19 {N : Nat} {C : Nat → Prop} {O : Nat → Nat → Prop} {o4 : _} (hN : N ≤ 324) (hb : ∀ k, k < N → puSt (o4.2.2.2.2.2.2.2.2.2.2.2.2.2.2.2.2.2.2.1 k) (fun s => O s k)) (heo : puEo C N o4.2.2.2.2.2.2.2.2.2.2.2.2.2.2.2.2.2.2.2.2.1) (hnc : o4.2.2.2.2.2.2.2.2.2.2.2.2.2.2.2.2.2.2.2.2.2.2.2.2.1 = puI (puN C N : Int)) {s : Nat} (hs : s < 24) {k : Int} (k1 : -2147483648 ≤ k) (k2 : k ≤ 2147483647) :
    puOk (xsWh (fun s8 => fX10_on_L19 (puI (s : Int)) (puI k) o4 s8.1 s8.2) ((0 : Int32), (0 : Int32))) (fun r => ∃ q, cp_r N C (O s) k q ∧ (r = .inl (.inl (q, o4.1, o4.2.1, o4.2.2.1, o4.2.2.2.1, o4.2.2.2.2.1, o4.2.2.2.2.2.1, o4.2.2.2.2.2.2.1, o4.2.2.2.2.2.2.2.1, o4.2.2.2.2.2.2.2.2.1, o4.2.2.2.2.2.2.2.2.2.1, o4.2.2.2.2.2.2.2.2.2.2.1, o4.2.2.2.2.2.2.2.2.2.2.2.1, o4.2.2.2.2.2.2.2.2.2.2.2.2.1, o4.2.2.2.2.2.2.2.2.2.2.2.2.2.1, o4.2.2.2.2.2.2.2.2.2.2.2.2.2.2.1, o4.2.2.2.2.2.2.2.2.2.2.2.2.2.2.2.1, o4.2.2.2.2.2.2.2.2.2.2.2.2.2.2.2.2.1, o4.2.2.2.2.2.2.2.2.2.2.2.2.2.2.2.2.2.1, o4.2.2.2.2.2.2.2.2.2.2.2.2.2.2.2.2.2.2.1, o4.2.2.2.2.2.2.2.2.2.2.2.2.2.2.2.2.2.2.2.1, o4.2.2.2.2.2.2.2.2.2.2.2.2.2.2.2.2.2.2.2.2.1, o4.2.2.2.2.2.2.2.2.2.2.2.2.2.2.2.2.2.2.2.2.2.1, o4.2.2.2.2.2.2.2.2.2.2.2.2.2.2.2.2.2.2.2.2.2.2.1, o4.2.2.2.2.2.2.2.2.2.2.2.2.2.2.2.2.2.2.2.2.2.2.2.1, o4.2.2.2.2.2.2.2.2.2.2.2.2.2.2.2.2.2.2.2.2.2.2.2.2.1, o4.2.2.2.2.2.2.2.2.2.2.2.2.2.2.2.2.2.2.2.2.2.2.2.2.2.1, o4.2.2.2.2.2.2.2.2.2.2.2.2.2.2.2.2.2.2.2.2.2.2.2.2.2.2.1, o4.2.2.2.2.2.2.2.2.2.2.2.2.2.2.2.2.2.2.2.2.2.2.2.2.2.2.2)) ∨ (q = -1 ∧ r = .inr ()))) := by
  have cn := puN_le C N
  refine puFor (puN C N) (fun m z => z.2 = puI (m : Int) ∧ z.1 = puI (puN (cp C (O s)) m : Int) ∧ ¬ (0 ≤ k ∧ k < (puN (cp C (O s)) m : Int))) _ ?_ ?_ 0 _ (Nat.zero_le _) ⟨rfl, rfl, fun q => by have := q.2; rw [puN_0] at this; omega⟩
  · rintro m ⟨y1, y2⟩ hm ⟨q1, q2, q3⟩
    simp only at q1 q2
    subst q1; subst q2
    obtain ⟨e, he, hC, hc⟩ := puN_kth hm
    have q := heo e he hC
    rw [hc] at q
    have cl := puN_le (cp C (O s)) m
    simp only [fX10_on_L19]
    rw [pu_goz hnc hm (by omega), xsCk_in (by omega) (by omega) (by omega), puI_clN (by omega), q, xsCk_in (by omega) (by omega) (by omega), puI_clN (by omega), pu_has _ (by omega), puB_iff ((hb e he s (by omega)).trans (cp_at hC hc).symm), xsBd_sm]
    by_cases c : cp C (O s) m
    · rw [pu_bt c]
      by_cases d : (puN (cp C (O s)) m : Int) = k
      · rw [xsBr_pos (by rw [d])]
        refine Or.inr ⟨_, rfl, _, Or.inl ⟨e, he, hC, (cp_at hC hc).mp c, ?_, ?_⟩, Or.inl rfl⟩
        · rw [← puN_cp, hc]; exact d
        · rw [hc]
      · rw [xsBr_neg (by rw [puI_eq (by omega) (by omega) (by omega) (by omega)]; exact d), xsLt_eq, xsLt_eq, puI_s1, puI_s1]
        exact Or.inl ⟨_, rfl, rfl, by dsimp only; rw [puN_y c], by rw [puN_y c]; omega⟩
    · rw [pu_bf c, xsLt_eq, puI_s1]
      exact Or.inl ⟨_, rfl, rfl, by dsimp only; rw [puN_n c], by rw [puN_n c]; exact q3⟩
  · rintro ⟨y1, y2⟩ ⟨q1, q2, q3⟩
    simp only at q1 q2
    subst q1; subst q2
    simp only [fX10_on_L19]
    rw [hnc, pu_out (by omega)]
    refine ⟨_, rfl, -1, Or.inr ⟨?_, rfl⟩, Or.inr ⟨rfl, rfl⟩⟩
    rw [← puN_cp]; exact q3
theorem p_mon19 {N : Nat} {C : Nat → Prop} {O : Nat → Nat → Prop} {o1 : _} {o3 : _} (hN : N ≤ 324) (hsz : o3.2.2.2.2.2.2.2.2.2.2.1 = puI (N : Int)) (hb : ∀ k, k < N → puSt (o3.2.2.2.2.2.2.2.2.2.2.2.2.1 k) (fun s => O s k)) (hcr : ∀ k, k < N → o3.2.2.2.2.2.2.2.2.2.2.2.1 k = puI (puXo C k)) {s : Nat} (hs : s < 24) {k : Int} (k1 : -2147483648 ≤ k) (k2 : k ≤ 2147483647) :
    puOk (xsWh (fun s7 => fX11_on_L19 (puI (s : Int)) o1 o3 s7.1 s7.2) (puI k, (0 : Int32))) (fun r => ∃ q, cp_r N C (O s) k q ∧ (r = .inl (q, o1.2, o3.1, o3.2.1, o3.2.2.1, o3.2.2.2.1, o3.2.2.2.2.1, o3.2.2.2.2.2.1, o3.2.2.2.2.2.2.1, o3.2.2.2.2.2.2.2.1, o3.2.2.2.2.2.2.2.2.1, o3.2.2.2.2.2.2.2.2.2.1, o3.2.2.2.2.2.2.2.2.2.2.1, o3.2.2.2.2.2.2.2.2.2.2.2.1, o3.2.2.2.2.2.2.2.2.2.2.2.2.1, o3.2.2.2.2.2.2.2.2.2.2.2.2.2.1, o3.2.2.2.2.2.2.2.2.2.2.2.2.2.2.1, o3.2.2.2.2.2.2.2.2.2.2.2.2.2.2.2.1, o3.2.2.2.2.2.2.2.2.2.2.2.2.2.2.2.2.1, o3.2.2.2.2.2.2.2.2.2.2.2.2.2.2.2.2.2.1, o3.2.2.2.2.2.2.2.2.2.2.2.2.2.2.2.2.2.2) ∨ (q = -1 ∧ r = .inr ()))) := by
  refine puFor N (fun m z => z.2 = puI (m : Int) ∧ z.1 = puI (k - (puN (fun e => C e ∧ O s e) m : Int)) ∧ ¬ (0 ≤ k ∧ k < (puN (fun e => C e ∧ O s e) m : Int))) _ ?_ ?_ 0 _ (Nat.zero_le _) ⟨rfl, by show puI k = puI (k - ((0 : Nat) : Int)); congr 1; omega, fun q => by have := q.2; rw [puN_0] at this; omega⟩
  · rintro m ⟨y1, y2⟩ hm ⟨q1, q2, q3⟩
    simp only at q1 q2
    subst q1; subst q2
    have cl := puN_le (fun e => C e ∧ O s e) m
    simp only [fX11_on_L19]
    rw [pu_goz hsz hm (by omega), xsCk_in (by omega) (by omega) (by omega), puI_clN (by omega), pu_holds _ (by omega), puB_iff (hb m hm s (by omega)), xsBd_sm]
    by_cases c : O s m
    · rw [pu_bt c, xsCk_in (by omega) (by omega) (by omega), hcr m hm, xsBr_iff (puXo_ne (by omega))]
      by_cases d : C m
      · rw [xsBr_neg (fun q => q d)]
        by_cases e : k = (puN (fun e => C e ∧ O s e) m : Int)
        · rw [xsBr_pos (by rw [e, Int.sub_self]; rfl), xsCk_in (by omega) (by omega) (by omega)]
          refine Or.inr ⟨_, rfl, _, Or.inl ⟨m, hm, d, c, e.symm, ?_⟩, Or.inl rfl⟩
          unfold puXo; rw [puE_pos d]
        · rw [xsBr_neg (puI_nz (by omega) (by omega) (by omega)), xsLt_eq, xsLt_eq, puI_s1, show (-1 : Int32) = puI (-1) by rfl, puI_add]
          refine Or.inl ⟨_, rfl, rfl, ?_, ?_⟩
          · dsimp only; rw [puN_y ⟨d, c⟩]; congr 1; omega
          · rw [puN_y ⟨d, c⟩]; omega
      · rw [xsBr_pos d, xsLt_eq, puI_s1]
        exact Or.inl ⟨_, rfl, rfl, by dsimp only; rw [puN_n (fun q => d q.1)], by rw [puN_n (fun q => d q.1)]; exact q3⟩
    · rw [pu_bf c, xsLt_eq, puI_s1]
      exact Or.inl ⟨_, rfl, rfl, by dsimp only; rw [puN_n (fun q => c q.2)], by rw [puN_n (fun q => c q.2)]; exact q3⟩
  · rintro ⟨y1, y2⟩ ⟨q1, q2, q3⟩
    simp only at q1 q2
    subst q1; subst q2
    simp only [fX11_on_L19]
    rw [hsz, pu_out (by omega)]
    exact ⟨_, rfl, -1, Or.inr ⟨q3, rfl⟩, Or.inr ⟨rfl, rfl⟩⟩
theorem q_on : pc_on puRl := by
  intro kIsKept kIsStale hiLatest hiSize scLength scFault scAt scNumber piSegmentsNow enKind enFromX enFromY enToX enToY tiMeetingPairs tiAlongPairs tiSize evSize evCrossings evSegmentsNow grEdges grQueued huSize huBestX huBestY scBytes scTold tiTouching tiLyingAlong evBundle evCrossingOf evEventOf evLeftEvent evRightEvent grDegree grFar grQueue huX huY enX enY enLower evX evY evLower S mThrown mRemembered mHasImage mIsLaid mEvents mCrossings mEdges mTaped mPoint mEnd mBegin mFaultAt mActs mWorld mImage mDraft mEarlier mOne mTwo mShare mCrossingOf mBundle mEventOf mDegree mFrom mTo mMet mTape mFive mTold mFar mViews mHullX mHullY mEndX mEndY mMeets mMeetsOf mX mY mD mHeightUp mHeightLow mEventX mEventY mEventD mUpper mLower hR a0 a1
  obtain ⟨n, G, rw, ri, rh, rt, rk, rm⟩ := hR
  obtain ⟨i, rfl, i1, i2⟩ := puI_ex a0
  obtain ⟨k, rfl, k1, k2⟩ := puI_ex a1
  obtain ⟨w1, w2, w3⟩ := id rw
  have hn := w1.1
  unfold fX10_on fX11_on
  rw [w2.2.2, p_checkSegment i1 i2 (by omega), p_noSegment hn w3 i1 i2, xsBd_sm, xsBd_sm]
  by_cases c0 : 0 ≤ i ∧ i < (n : Int)
  case neg =>
    rw [puCk_neg c0, puB_pos c0, puE_pos c0]
    simp only [xsTh]
    rw [xsBr_neg (by decide)]
    exact ⟨_, _, rfl, rfl, Or.inr ⟨_, _, rfl, rfl, rfl, n, G, rw, ri, rh, rt, rk, rm⟩⟩
  rw [puCk_pos c0, puB_neg (fun q => q c0), puE_neg (fun q => q c0)]
  simp only [xsTh]
  obtain ⟨s, rfl, hs⟩ : ∃ s : Nat, i = (s : Int) ∧ s < n := ⟨i.toNat, by omega, by omega⟩
  obtain ⟨o, eo, o0, ho⟩ := p_drawn w1 w2.1 rk (k0 := enKind) (x0 := enX) (y0 := enY) (l0 := enLower) (f0 := enFromX) (f1 := enFromY) (f2 := enToX) (f3 := enToY)
  obtain ⟨v, ev, hv⟩ := p_lays w1 w3 rm (one := mOne) (two := mTwo) (sh := mShare) (x0 := mX) (y0 := mY) (d0 := mD)
  obtain ⟨⟨okp, gN⟩, -, -, -, -, gbu, ⟨-, geo, gnc⟩, -, -⟩ := id ho
  obtain ⟨v1, ⟨-, -⟩, ⟨-, vsz⟩, vbu, ⟨vcr, -, -⟩, -⟩ := id hv
  obtain ⟨r, er, q, hq, hr⟩ := p_on19 (o4 := o) (O := puO n G) gN gbu geo gnc (show s < 24 by omega) k1 k2
  obtain ⟨r2, er2, q2, hq2, hr2⟩ := p_mon19 (o1 := ((0 : Int32), (0 : Int32))) (o3 := v) (O := puO n G) gN vsz vbu vcr (show s < 24 by omega) k1 k2
  rw [xsBr_T, xsBd_some eo, xsBd_some er, xsBd_some ev, xsBd_some er2]
  have eq := cp_r_u hq hq2
  subst eq
  rcases hr with rfl | ⟨z1, rfl⟩
  · rcases hr2 with rfl | ⟨z2, rfl⟩
    · simp only [xsSm]
      exact ⟨_, _, rfl, rfl, Or.inl ⟨_, rfl, rfl, rfl, n, G, rw, ri, rh, rt, Or.inr ⟨o0, ho⟩, Or.inr hv⟩⟩
    · simp only [xsSm, fX11_on_J77]
      exact ⟨_, _, rfl, rfl, Or.inl ⟨_, rfl, z2, rfl, n, G, rw, ri, rh, rt, Or.inr ⟨o0, ho⟩, Or.inr hv⟩⟩
  · rcases hr2 with rfl | ⟨z2, rfl⟩
    · simp only [xsSm, fX10_on_J65]
      exact ⟨_, _, rfl, rfl, Or.inl ⟨_, rfl, z1.symm, rfl, n, G, rw, ri, rh, rt, Or.inr ⟨o0, ho⟩, Or.inr hv⟩⟩
    · simp only [xsSm, fX10_on_J65, fX11_on_J77]
      exact ⟨_, _, rfl, rfl, Or.inl ⟨_, rfl, rfl, rfl, n, G, rw, ri, rh, rt, Or.inr ⟨o0, ho⟩, Or.inr hv⟩⟩

theorem p_kindOf {n : Nat} {G : puG} {w one : Nat → Int32} (hv : puVal n G) (hw : puMW n G w) {s : Nat} (hs : s < n) : puOk (fX11_kindOf w one (puI (s : Int))) (fun o => o.1 = puI (puKn (G s))) := by
  have hn := hv.1
  have v := hv.2 s hs
  obtain ⟨h1, h2, h3, h4, -⟩ := hw.2 s hs
  obtain ⟨⟨b1, b2, b3, b4⟩, -, -⟩ := id v
  obtain ⟨f, ef, hf⟩ := p_takes (f := one) (show s < 24 by omega) (hw.2 s hs)
  unfold fX11_kindOf
  rw [xsBd_some ef, p_isMere1 hf v, xsBd_sm]
  have em : (puAi (G s) = puZi (G s)) ↔ (puW (G s) = 0 ∧ puH (G s) = 0) := by
    unfold puAi puZi puW puH
    rw [Prod.mk.injEq]; omega
  rw [puB_iff em]
  unfold puKn
  by_cases c : puW (G s) = 0 ∧ puH (G s) = 0
  · rw [pu_bt c, puE_pos c.1, puE_pos c.2]; exact puOk_some rfl
  · rw [pu_bf c, p_isUp hv hw hs, xsBd_sm]
    by_cases d : puW (G s) = 0
    · rw [pu_bt d, puE_pos d, puE_neg (fun q => c ⟨d, q⟩)]; exact puOk_some rfl
    · rw [pu_bf d, puE_neg d, p_of1 (by omega), p_of3 (by omega), xsBd_sm, xsBd_sm, h2, h4]
      by_cases e : puH (G s) = 0
      · rw [puE_pos e, xsBr_pos (by congr 1; unfold puH at e; omega)]; exact puOk_some rfl
      · rw [puE_neg e, xsBr_neg (by rw [puI_eq (by omega) (by omega) (by omega) (by omega)]; unfold puH at e; omega)]; exact puOk_some rfl
theorem q_segment : pc_segment puRl := by
  intro kIsKept kIsStale hiLatest hiSize scLength scFault scAt scNumber piSegmentsNow enKind enFromX enFromY enToX enToY tiMeetingPairs tiAlongPairs tiSize evSize evCrossings evSegmentsNow grEdges grQueued huSize huBestX huBestY scBytes scTold tiTouching tiLyingAlong evBundle evCrossingOf evEventOf evLeftEvent evRightEvent grDegree grFar grQueue huX huY enX enY enLower evX evY evLower S mThrown mRemembered mHasImage mIsLaid mEvents mCrossings mEdges mTaped mPoint mEnd mBegin mFaultAt mActs mWorld mImage mDraft mEarlier mOne mTwo mShare mCrossingOf mBundle mEventOf mDegree mFrom mTo mMet mTape mFive mTold mFar mViews mHullX mHullY mEndX mEndY mMeets mMeetsOf mX mY mD mHeightUp mHeightLow mEventX mEventY mEventD mUpper mLower hR a0 a1
  obtain ⟨n, G, rw, ri, rh, rt, rk, rm⟩ := hR
  obtain ⟨i, rfl, i1, i2⟩ := puI_ex a0
  obtain ⟨k, rfl, k1, k2⟩ := puI_ex a1
  obtain ⟨w1, w2, w3⟩ := id rw
  have hn := w1.1
  unfold fX10_segment fX11_segment
  rw [w2.2.2, p_checkSegment i1 i2 (by omega), p_noSegment hn w3 i1 i2, xsBd_sm, xsBd_sm]
  by_cases c0 : 0 ≤ i ∧ i < (n : Int)
  case neg =>
    rw [puCk_neg c0, puB_pos c0, puE_pos c0]
    simp only [xsTh]
    rw [xsBr_neg (by decide)]
    exact ⟨_, _, rfl, rfl, Or.inr ⟨_, _, rfl, Or.inl rfl, rfl, n, G, rw, ri, rh, rt, rk, rm⟩⟩
  rw [puCk_pos c0, puB_neg (fun q => q c0), puE_neg (fun q => q c0)]
  simp only [xsTh]
  obtain ⟨s, rfl, hs⟩ : ∃ s : Nat, i = (s : Int) ∧ s < n := ⟨i.toNat, by omega, by omega⟩
  rw [xsBr_T, puI_l k1 k2, show (0 : Int64) = puJ 0 by rfl, show (8 : Int64) = puJ 8 by rfl, p_in (by omega) (by omega) (by omega)]
  simp only [xsBd_sm, xsBr_10]
  unfold fX11_segment_J26
  simp only
  rw [p_throwsIf, xsBd_sm]
  obtain ⟨q1, q2, q3, q4⟩ := id (w2.1 s hs)
  have kt := w2.2.1 s hs
  obtain ⟨m1, m2, m3, m4, m5⟩ := id (w3.2 s hs)
  by_cases c3 : 0 ≤ k ∧ k ≤ 8
  case neg =>
    have nk : ∀ z : Int, 0 ≤ z → z ≤ 8 → ¬ puI k = puI z := fun z z1 z2 q => by rw [puI_eq (by omega) (by omega) (by omega) (by omega)] at q; omega
    have n0 : ¬ puI k = 0 := nk 0 (by omega) (by omega)
    have n1 : ¬ puI k = 1 := nk 1 (by omega) (by omega)
    have n2 : ¬ puI k = 2 := nk 2 (by omega) (by omega)
    have n3 : ¬ puI k = 3 := nk 3 (by omega) (by omega)
    have n4 : ¬ puI k = 4 := nk 4 (by omega) (by omega)
    have n5 : ¬ puI k = 5 := nk 5 (by omega) (by omega)
    have n6 : ¬ puI k = 6 := nk 6 (by omega) (by omega)
    have n7 : ¬ puI k = 7 := nk 7 (by omega) (by omega)
    have n8 : ¬ puI k = 8 := nk 8 (by omega) (by omega)
    simp only [xsBr_neg n0, xsBr_neg n1, xsBr_neg n2, xsBr_neg n3, xsBr_neg n4, xsBr_neg n5, xsBr_neg n6, xsBr_neg n7, xsBr_neg n8]
    rw [puB_pos (puB_0.mpr c3), puE_pos (puB_0.mpr c3), xsBr_neg (by decide)]
    exact ⟨_, _, rfl, rfl, Or.inr ⟨_, _, rfl, Or.inr rfl, rfl, n, G, rw, ri, rh, rt, rk, rm⟩⟩
  have c3' : ¬ puB (0 ≤ k ∧ k ≤ 8) = 0 := puB_n0.mpr c3
  rw [puB_neg c3', puE_neg c3']
  simp only
  rw [xsBr_T]
  rcases (show k = 0 ∨ k = 1 ∨ k = 2 ∨ k = 3 ∨ k = 4 ∨ k = 5 ∨ k = 6 ∨ k = 7 ∨ k = 8 by omega) with h | h | h | h | h | h | h | h | h
  · subst h
    have x5 : ¬ puI 0 = 5 := by decide
    have x6 : ¬ puI 0 = 6 := by decide
    have x7 : ¬ puI 0 = 7 := by decide
    have x8 : ¬ puI 0 = 8 := by decide
    have m1 : mWorld (1 + 5 * s + 0) = puI (G s).1 := m1
    simp only [xsBr_neg x5, xsBr_neg x6, xsBr_neg x7, xsBr_neg x8]
    rw [xsBr_pos (by first | trivial | rfl), xsCk_in (by omega) (by omega) (by omega), puI_clN (by omega), show puI 0 = puI ((0 : Nat) : Int) by rfl, p_of (by omega) (by omega), xsBd_sm, m1]
    try rw [q1]
    exact ⟨_, _, rfl, rfl, Or.inl ⟨_, rfl, rfl, rfl, n, G, rw, ri, rh, rt, rk, rm⟩⟩
  · subst h
    have n0 : ¬ puI 1 = 0 := by decide
    simp only [xsBr_neg n0]
    have x5 : ¬ puI 1 = 5 := by decide
    have x6 : ¬ puI 1 = 6 := by decide
    have x7 : ¬ puI 1 = 7 := by decide
    have x8 : ¬ puI 1 = 8 := by decide
    simp only [xsBr_neg x5, xsBr_neg x6, xsBr_neg x7, xsBr_neg x8]
    rw [xsBr_pos (by first | trivial | rfl), xsCk_in (by omega) (by omega) (by omega), puI_clN (by omega), show puI 1 = puI ((1 : Nat) : Int) by rfl, p_of (by omega) (by omega), xsBd_sm, m2]
    try rw [q2]
    exact ⟨_, _, rfl, rfl, Or.inl ⟨_, rfl, rfl, rfl, n, G, rw, ri, rh, rt, rk, rm⟩⟩
  · subst h
    have n0 : ¬ puI 2 = 0 := by decide
    have n1 : ¬ puI 2 = 1 := by decide
    simp only [xsBr_neg n0, xsBr_neg n1]
    have x5 : ¬ puI 2 = 5 := by decide
    have x6 : ¬ puI 2 = 6 := by decide
    have x7 : ¬ puI 2 = 7 := by decide
    have x8 : ¬ puI 2 = 8 := by decide
    simp only [xsBr_neg x5, xsBr_neg x6, xsBr_neg x7, xsBr_neg x8]
    rw [xsBr_pos (by first | trivial | rfl), xsCk_in (by omega) (by omega) (by omega), puI_clN (by omega), show puI 2 = puI ((2 : Nat) : Int) by rfl, p_of (by omega) (by omega), xsBd_sm, m3]
    try rw [q3]
    exact ⟨_, _, rfl, rfl, Or.inl ⟨_, rfl, rfl, rfl, n, G, rw, ri, rh, rt, rk, rm⟩⟩
  · subst h
    have n0 : ¬ puI 3 = 0 := by decide
    have n1 : ¬ puI 3 = 1 := by decide
    have n2 : ¬ puI 3 = 2 := by decide
    simp only [xsBr_neg n0, xsBr_neg n1, xsBr_neg n2]
    have x5 : ¬ puI 3 = 5 := by decide
    have x6 : ¬ puI 3 = 6 := by decide
    have x7 : ¬ puI 3 = 7 := by decide
    have x8 : ¬ puI 3 = 8 := by decide
    simp only [xsBr_neg x5, xsBr_neg x6, xsBr_neg x7, xsBr_neg x8]
    rw [xsBr_pos (by first | trivial | rfl), xsCk_in (by omega) (by omega) (by omega), puI_clN (by omega), show puI 3 = puI ((3 : Nat) : Int) by rfl, p_of (by omega) (by omega), xsBd_sm, m4]
    try rw [q4]
    exact ⟨_, _, rfl, rfl, Or.inl ⟨_, rfl, rfl, rfl, n, G, rw, ri, rh, rt, rk, rm⟩⟩
  · subst h
    have n0 : ¬ puI 4 = 0 := by decide
    have n1 : ¬ puI 4 = 1 := by decide
    have n2 : ¬ puI 4 = 2 := by decide
    have n3 : ¬ puI 4 = 3 := by decide
    simp only [xsBr_neg n0, xsBr_neg n1, xsBr_neg n2, xsBr_neg n3]
    have x5 : ¬ puI 4 = 5 := by decide
    have x6 : ¬ puI 4 = 6 := by decide
    have x7 : ¬ puI 4 = 7 := by decide
    have x8 : ¬ puI 4 = 8 := by decide
    simp only [xsBr_neg x5, xsBr_neg x6, xsBr_neg x7, xsBr_neg x8]
    rw [xsBr_pos (by first | trivial | rfl), xsCk_in (by omega) (by omega) (by omega), puI_clN (by omega), show puI 4 = puI ((4 : Nat) : Int) by rfl, p_of (by omega) (by omega), xsBd_sm, m5]
    try rw [kt]
    exact ⟨_, _, rfl, rfl, Or.inl ⟨_, rfl, rfl, rfl, n, G, rw, ri, rh, rt, rk, rm⟩⟩
  · subst h
    have n0 : ¬ puI 5 = 0 := by decide
    have n1 : ¬ puI 5 = 1 := by decide
    have n2 : ¬ puI 5 = 2 := by decide
    have n3 : ¬ puI 5 = 3 := by decide
    have n4 : ¬ puI 5 = 4 := by decide
    simp only [xsBr_neg n0, xsBr_neg n1, xsBr_neg n2, xsBr_neg n3, xsBr_neg n4]
    obtain ⟨r, er, hr⟩ := p_kindOf w1 w3 hs (one := mOne)
    rw [xsBr_pos (by first | trivial | rfl), xsBr_pos (by first | trivial | rfl), p_kind (w2.1 s hs) (w1.2 s hs) (by omega), xsBd_some er, xsBd_sm, hr]
    exact ⟨_, _, rfl, rfl, Or.inl ⟨_, rfl, rfl, rfl, n, G, rw, ri, rh, rt, rk, rm⟩⟩
  · subst h
    have n0 : ¬ puI 6 = 0 := by decide
    have n1 : ¬ puI 6 = 1 := by decide
    have n2 : ¬ puI 6 = 2 := by decide
    have n3 : ¬ puI 6 = 3 := by decide
    have n4 : ¬ puI 6 = 4 := by decide
    have n5 : ¬ puI 6 = 5 := by decide
    simp only [xsBr_neg n0, xsBr_neg n1, xsBr_neg n2, xsBr_neg n3, xsBr_neg n4, xsBr_neg n5]
    obtain ⟨o, eo, o0, ho⟩ := p_drawn w1 w2.1 rk (k0 := enKind) (x0 := enX) (y0 := enY) (l0 := enLower) (f0 := enFromX) (f1 := enFromY) (f2 := enToX) (f3 := enToY)
    obtain ⟨v, ev, hv⟩ := p_lays w1 w3 rm (one := mOne) (two := mTwo) (sh := mShare) (x0 := mX) (y0 := mY) (d0 := mD)
    obtain ⟨⟨okp, gN⟩, -, -, -, -, gbu, ⟨-, geo, gnc⟩, -, -⟩ := id ho
    obtain ⟨v1, ⟨-, -⟩, ⟨-, vsz⟩, vbu, ⟨vcr, -, -⟩, -⟩ := id hv
    have er := p_mevOn9 (o1 := v) (O := puO n G) gN vsz vbu vcr (show s < 24 by omega) 1
    have ee : puN (fun e => puO n G s e ∧ ((1 : Int32) = 0 ∨ puX n G e)) (puCan n G).1 = puN (fun e => puX n G e ∧ puO n G s e) (puCan n G).1 := puN_c (fun e _ => ⟨fun q => ⟨q.2.resolve_left (by decide), q.1⟩, fun q => ⟨q.2, Or.inr q.1⟩⟩)
    rw [ee] at er
    unfold fX11_eventsOn
    rw [xsBr_pos (by first | trivial | rfl), xsBr_pos (by first | trivial | rfl), xsBd_some eo, p_crOn gN gbu geo gnc (show s < 24 by omega), xsBd_sm, xsBd_some ev, xsBd_some er]
    simp only [fX11_eventsOn_J61, xsBd_sm]
    exact ⟨_, _, rfl, rfl, Or.inl ⟨_, rfl, rfl, rfl, n, G, rw, ri, rh, rt, Or.inr ⟨o0, ho⟩, Or.inr hv⟩⟩
  · subst h
    have n0 : ¬ puI 7 = 0 := by decide
    have n1 : ¬ puI 7 = 1 := by decide
    have n2 : ¬ puI 7 = 2 := by decide
    have n3 : ¬ puI 7 = 3 := by decide
    have n4 : ¬ puI 7 = 4 := by decide
    have n5 : ¬ puI 7 = 5 := by decide
    have n6 : ¬ puI 7 = 6 := by decide
    simp only [xsBr_neg n0, xsBr_neg n1, xsBr_neg n2, xsBr_neg n3, xsBr_neg n4, xsBr_neg n5, xsBr_neg n6]
    obtain ⟨o, eo, o0, ho⟩ := p_drawn w1 w2.1 rk (k0 := enKind) (x0 := enX) (y0 := enY) (l0 := enLower) (f0 := enFromX) (f1 := enFromY) (f2 := enToX) (f3 := enToY)
    obtain ⟨v, ev, hv⟩ := p_lays w1 w3 rm (one := mOne) (two := mTwo) (sh := mShare) (x0 := mX) (y0 := mY) (d0 := mD)
    obtain ⟨⟨okp, gN⟩, -, -, -, ⟨-, gsz⟩, gbu, -, -, -⟩ := id ho
    obtain ⟨v1, ⟨-, -⟩, ⟨-, vsz⟩, vbu, ⟨vcr, -, -⟩, -⟩ := id hv
    have er := p_mevOn9 (o1 := v) (O := puO n G) gN vsz vbu vcr (show s < 24 by omega) 0
    have ee : puN (fun e => puO n G s e ∧ ((0 : Int32) = 0 ∨ puX n G e)) (puCan n G).1 = puN (puO n G s) (puCan n G).1 := puN_c (fun e _ => ⟨fun q => q.1, fun q => ⟨q, Or.inl rfl⟩⟩)
    rw [ee] at er
    unfold fX11_eventsOn
    rw [xsBr_pos (by first | trivial | rfl), xsBr_pos (by first | trivial | rfl), xsBd_some eo, p_evOn gN gbu gsz (show s < 24 by omega), xsBd_sm, xsBd_some ev, xsBd_some er]
    simp only [fX11_eventsOn_J61, xsBd_sm]
    exact ⟨_, _, rfl, rfl, Or.inl ⟨_, rfl, rfl, rfl, n, G, rw, ri, rh, rt, Or.inr ⟨o0, ho⟩, Or.inr hv⟩⟩
  · subst h
    have n0 : ¬ puI 8 = 0 := by decide
    have n1 : ¬ puI 8 = 1 := by decide
    have n2 : ¬ puI 8 = 2 := by decide
    have n3 : ¬ puI 8 = 3 := by decide
    have n4 : ¬ puI 8 = 4 := by decide
    have n5 : ¬ puI 8 = 5 := by decide
    have n6 : ¬ puI 8 = 6 := by decide
    have n7 : ¬ puI 8 = 7 := by decide
    simp only [xsBr_neg n0, xsBr_neg n1, xsBr_neg n2, xsBr_neg n3, xsBr_neg n4, xsBr_neg n5, xsBr_neg n6, xsBr_neg n7]
    obtain ⟨o, eo, o0, ho⟩ := p_drawn w1 w2.1 rk (k0 := enKind) (x0 := enX) (y0 := enY) (l0 := enLower) (f0 := enFromX) (f1 := enFromY) (f2 := enToX) (f3 := enToY)
    obtain ⟨-, ⟨-, gtn, -⟩, ⟨gt, -⟩, -⟩ := id ho
    obtain ⟨r, er, hr⟩ := p_partK hn gt gtn hs
    obtain ⟨r2, er2, hr2⟩ := p_partM w1 w3 hs (one := mOne) (two := mTwo) (sh := mShare) (x := mX) (y := mY) (d := mD)
    rw [xsBr_pos (by first | trivial | rfl), xsBr_pos (by first | trivial | rfl), xsBd_some eo, er, xsBd_sm, xsBd_some er2, puSt_eq hr hr2]
    exact ⟨_, _, rfl, rfl, Or.inl ⟨_, rfl, rfl, rfl, n, G, rw, ri, rh, rt, Or.inr ⟨o0, ho⟩, rm⟩⟩

