/-! PURE: the class draws: pairs in a bundle, crossings, edges -/
theorem p_pairsIn {n : Nat} (hn : n ≤ 24) {ly : Nat → Int32} {K : Nat → Nat → Prop} (hK : ∀ a b, a < n → b < n → (K a b ↔ K b a)) (hl : puTie n ly (fun s i => i < n ∧ s ≠ i ∧ K s i)) {x : Int32} {B : Nat → Prop} (hx : puSt x B) (hB : ∀ i, B i → i < n) :
    fX9_pairsMeetingIn ly (puI (n : Int)) x = some (puI ((puPr n (fun a b => B a ∧ B b ∧ ¬ K a b) : Nat) : Int)) := by
  have hR : ∀ k, k < n → B k → fJ6_bitCount_0f7a4 (x &&& ((ly k) ^^^ (-1 : Int32))) = some (puI ((1 + puN (fun o => B k ∧ B o ∧ k ≠ o ∧ ¬ K k o) n : Nat) : Int)) := by
    intro k hk hb
    rw [pu_bitCount]
    congr 3
    have st := puSt_and hx (puSt_not (hl k hk))
    have e1 : fb_ct (bt (x &&& ((ly k) ^^^ (-1 : Int32)))) 32 = puN (fun i => B i ∧ ¬ (i < n ∧ k ≠ i ∧ K k i)) 32 := by
      unfold puN
      refine fb_ct_cong (fun i hi => ?_)
      have := st i hi
      by_cases c : B i ∧ ¬ (i < n ∧ k ≠ i ∧ K k i)
      · rw [puDe_t.mpr c]; exact this.mpr c
      · rw [puDe_f.mpr c]; exact ts_nf2 (fun q => c (this.mp q))
    rw [e1, puN_out (m := n) (by omega) (fun i h1 h2 q => by have := hB i q.1; omega)]
    have e2 : puN (fun i => B i ∧ ¬ (i < n ∧ k ≠ i ∧ K k i)) n = puN (fun i => i = k ∨ (B k ∧ B i ∧ k ≠ i ∧ ¬ K k i)) n := by
      refine puN_c (fun i hi => ?_)
      constructor
      · rintro ⟨q1, q2⟩
        by_cases e : i = k
        · exact Or.inl e
        · exact Or.inr ⟨hb, q1, fun z => e z.symm, fun z => q2 ⟨hi, fun w => e w.symm, z⟩⟩
      · rintro (rfl | ⟨q1, q2, q3, q4⟩)
        · exact ⟨hb, fun z => z.2.1 rfl⟩
        · exact ⟨q2, fun z => q4 z.2.2⟩
    rw [e2, puN_or (fun i _ q => q.2.2.2.1 q.1.symm), puN_one hk (fun _ _ => Iff.rfl)]
  have key : xsWh (fun s3 => fX9_pairsMeetingIn_L4 ly (puI (n : Int)) x s3.1 s3.2) ((0 : Int32), (0 : Int32)) = some (puI ((fb_sm (fun s => puN (fun o => B s ∧ B o ∧ s ≠ o ∧ ¬ K s o) n) n : Nat) : Int)) := by
    refine puForS n (fun k => (puI ((fb_sm (fun s => puN (fun o => B s ∧ B o ∧ s ≠ o ∧ ¬ K s o) n) k : Nat) : Int), puI (k : Int))) _ ?_ ?_
    · intro k hk
      simp only [fX9_pairsMeetingIn_L4]
      rw [xsBr_neg (by rw [puI_leN (by omega) (by omega)]; omega), pu_has x (by omega), xsBd_sm, fb_sm_succ]
      have hbk := hx k (by omega)
      by_cases c : bt x k = true
      · rw [xsBr_neg (by rw [puB_pos c]; decide), xsCk_in (by omega) (by omega) (by omega), puI_clN (by omega), hR k hk (hbk.mp c), xsBd_sm, xsLt_eq, xsBd_sm]
        simp only [fX9_pairsMeetingIn_J38]
        rw [xsLt_eq, puI_s1, show (1 : Int32) = puI 1 by rfl, puI_sub, puI_add]
        congr 4
        omega
      · rw [xsBr_pos (by rw [puB_neg c]), xsBd_sm]
        simp only [fX9_pairsMeetingIn_J38]
        rw [xsLt_eq, puI_s1, puN_z.mpr (fun i _ q => c (hbk.mpr q.1))]; rfl
    · simp only [fX9_pairsMeetingIn_L4]
      rw [xsBr_pos (by rw [puI_leN (by omega) (by omega)]; omega)]
  unfold fX9_pairsMeetingIn
  rw [xsBd_some key]
  simp only [fX9_pairsMeetingIn_J44]
  have e3 : fb_sm (fun s => puN (fun o => B s ∧ B o ∧ s ≠ o ∧ ¬ K s o) n) n = 2 * puPr n (fun s o => B s ∧ B o ∧ s ≠ o ∧ ¬ K s o) :=
    pu_dbl (R := fun s o => B s ∧ B o ∧ s ≠ o ∧ ¬ K s o) (fun a b => ⟨fun q => ⟨q.2.1, q.1, fun z => q.2.2.1 z.symm, fun z => q.2.2.2 ((hK a b (hB a q.1) (hB b q.2.1)).mpr z)⟩, fun q => ⟨q.2.1, q.1, fun z => q.2.2.1 z.symm, fun z => q.2.2.2 ((hK b a (hB b q.1) (hB a q.2.1)).mpr z)⟩⟩) (fun a q => q.2.2.1 rfl) n
  have e4 : puPr n (fun s o => B s ∧ B o ∧ s ≠ o ∧ ¬ K s o) = puPr n (fun a b => B a ∧ B b ∧ ¬ K a b) := puPr_c (fun a b _ hb => ⟨fun q => ⟨q.1, q.2.1, q.2.2.2⟩, fun q => ⟨q.1, q.2.1, by omega, q.2.2⟩⟩)
  have bd := puPr_le n (fun a b => B a ∧ B b ∧ ¬ K a b)
  have bd2 : n * n ≤ 24 * 24 := Nat.mul_le_mul hn hn
  rw [e3, e4, pu_hf (by omega)]
  congr 3
  omega
/-- pairs of a bundle that do not lie along: a crossing, if there is one -/
theorem puCr_pairs {n : Nat} {G : puG} (hv : puVal n G) (p : puP) : 0 < puPr n (fun a b => (a < n ∧ puOn (G a) p) ∧ (b < n ∧ puOn (G b) p) ∧ ¬ puKd (G a) (G b) = 2) ↔ puCr n G p := by
  rw [puPr_pos]
  constructor
  · rintro ⟨a, b, hb, ha, ⟨-, o1⟩, ⟨hb2, o2⟩, k2⟩
    have va := hv.2 a ha; have vb := hv.2 b hb2
    have k0 := puKd_0 va vb o1 o2
    have kl := puKd_le (G a) (G b)
    have k1 : puKd (G a) (G b) = 1 := by omega
    exact ⟨a, b, hb, ha, k1, (puKd_1 va vb k1).2.2 p o1 o2⟩
  · rintro ⟨a, b, hb, ha, k1, rfl⟩
    obtain ⟨o1, o2, -⟩ := puKd_1 (hv.2 a ha) (hv.2 b (by omega)) k1
    exact ⟨a, b, hb, ha, ⟨ha, o1⟩, ⟨by omega, o2⟩, by omega⟩
/-- the number of a crossing -/
noncomputable def puXo (C : Nat → Prop) (k : Nat) : Int := puE (C k) (puN C k : Int) (-1)
theorem puN_lt {C : Nat → Prop} {j k : Nat} (h : j < k) (hc : C j) : puN C j < puN C k := by
  have h1 : puN C (j + 1) = puN C j + 1 := by rw [puN_s, puE_pos hc]
  have h2 : puN C (j + 1) ≤ puN C k := by
    unfold puN; exact fb_ct_mono _ h
  omega
theorem puN_inj {C : Nat → Prop} {j k : Nat} (hj : C j) (hk : C k) (e : puN C j = puN C k) : j = k := by
  rcases Nat.lt_trichotomy j k with q | q | q
  · have := puN_lt q hj; omega
  · exact q
  · have := puN_lt q hk; omega
def puEo (C : Nat → Prop) (m : Nat) (eo : Nat → Int32) : Prop := ∀ k, k < m → C k → eo (puN C k) = puI (k : Int)
theorem puEo_s {C : Nat → Prop} {m : Nat} {eo : Nat → Int32} (h : puEo C m eo) : puEo C (m + 1) (upd eo (puN C m) (puI (m : Int))) := by
  intro k hk hc
  by_cases e : k = m
  · subst e; exact puUpd_eq _ _ _
  · rw [puUpd_ne (fun q => by have := puN_lt (show k < m by omega) hc; omega)]
    exact h k (by omega) hc
/-- the crossings are all reached -/
theorem puN_kth {C : Nat → Prop} {N c : Nat} (h : c < puN C N) : ∃ k, k < N ∧ C k ∧ puN C k = c := by
  unfold puN at h
  obtain ⟨i, h1, h2, h3⟩ := fb_ct_kth h
  exact ⟨i, h1, puDe_t.mp h2, h3⟩
theorem p_gather {n : Nat} {G : puG} {lx ly rx ry : Nat → Int32} (hv : puVal n G) (hk : puKW n G lx ly rx ry) {N : Nat} {P : Nat → puP} {ex ey ed : Nat → Int64} (he : puEvs N P ex ey ed) (hE : puEvt n G N P) (hN : N ≤ 324)
    {l : Nat → Int32} (hl : puTie n l (fun s i => i < n ∧ s ≠ i ∧ puKd (G s) (G i) = 2)) {bu cr eo le re : Nat → Int32} {sn : Int32} :
    puOk (fX1_gather l (puI (n : Int)) ex ey ed bu cr eo le re (puI (N : Int)) (0 : Int32) sn lx ly rx ry (puI (n : Int))) (fun o => (∀ k, k < N → puSt (o.1 k) (fun s => s < n ∧ puOn (G s) (P k))) ∧ (∀ k, k < N → o.2.1 k = puI (puXo (fun j => puCr n G (P j)) k)) ∧ puEo (fun j => puCr n G (P j)) N o.2.2.1 ∧ puEnd n G N P o.2.2.2.1 o.2.2.2.2.1 ∧ o.2.2.2.2.2.1 = puI (puN (fun j => puCr n G (P j)) N : Int) ∧ o.2.2.2.2.2.2 = puI (n : Int)) := by
  have hn := hv.1
  have k1 : puOk (xsWh (fun s4 => fX1_gather_L10 ex ey ed (puI (N : Int)) lx ly rx ry (puI (n : Int)) s4.1 s4.2.1 s4.2.2) ((0 : Int32), le, re)) (fun r => puEnd n G N P r.1 r.2) := by
    refine puFor1 n (fun k z => z.1 = puI (k : Int) ∧ ∀ s, s < k → z.2.1 s = puI (puIx N P (puA (G s)) : Int) ∧ z.2.2 s = puI (puIx N P (puZ (G s)) : Int)) _ ⟨rfl, fun s hs => by omega⟩ ?_ ?_
    · rintro k ⟨i, u, v⟩ hkn ⟨rfl, h1⟩
      simp only at h1
      have vk := hv.2 k hkn
      obtain ⟨b1, b2, b3, b4⟩ := vk.1
      obtain ⟨q1, q2, q3, q4⟩ := hk k hkn
      simp only [fX1_gather_L10]
      rw [xsBr_neg (by rw [puI_leN (by omega) (by omega)]; omega), xsCk_in (by omega) (by omega) (by omega), xsCk_in (by omega) (by omega) (by omega), puI_clN (by omega), q1, q2, puI_l (by omega) (by omega), puI_l (by omega) (by omega), show (1 : Int64) = puJ 1 by rfl, p_placeOf he hE.1 (puRep_A vk) hN, xsBd_sm, xsCk_in (by omega) (by omega) (by omega), xsLt_eq, xsCk_in (by omega) (by omega) (by omega), xsCk_in (by omega) (by omega) (by omega), q3, q4, puI_l (by omega) (by omega), puI_l (by omega) (by omega), p_placeOf he hE.1 (puRep_Z vk) hN, xsBd_sm, xsCk_in (by omega) (by omega) (by omega), xsLt_eq, xsLt_eq, puI_s1]
      refine ⟨_, rfl, rfl, fun s hs => ?_⟩
      dsimp only
      by_cases e : s = k
      · subst e; rw [puUpd_eq, puUpd_eq]; exact ⟨rfl, rfl⟩
      · rw [puUpd_ne e, puUpd_ne e]; exact h1 s (by omega)
    · rintro ⟨i, u, v⟩ ⟨rfl, h1⟩
      simp only [fX1_gather_L10]
      rw [xsBr_pos (by rw [puI_leN (by omega) (by omega)]; omega)]
      exact ⟨_, rfl, h1⟩
  obtain ⟨⟨u, v⟩, e1, h1⟩ := k1
  simp only at h1
  have k2 : puOk (xsWh (fun s12 => fX1_gather_L76 l (puI (n : Int)) ex ey ed (puI (N : Int)) lx ly rx ry (puI (n : Int)) u v s12.1 s12.2.1 s12.2.2.1 s12.2.2.2.1 s12.2.2.2.2) ((0 : Int32), bu, cr, eo, (0 : Int32))) (fun r => (∀ k, k < N → puSt (r.1 k) (fun s => s < n ∧ puOn (G s) (P k))) ∧ (∀ k, k < N → r.2.1 k = puI (puXo (fun j => puCr n G (P j)) k)) ∧ puEo (fun j => puCr n G (P j)) N r.2.2.1 ∧ r.2.2.2 = puI (puN (fun j => puCr n G (P j)) N : Int)) := by
    refine puFor1 N (fun m z => z.1 = puI (m : Int) ∧ (∀ k, k < m → puSt (z.2.1 k) (fun s => s < n ∧ puOn (G s) (P k))) ∧ (∀ k, k < m → z.2.2.1 k = puI (puXo (fun j => puCr n G (P j)) k)) ∧ puEo (fun j => puCr n G (P j)) m z.2.2.2.1 ∧ z.2.2.2.2 = puI (puN (fun j => puCr n G (P j)) m : Int)) _ ⟨rfl, fun s hs => by omega, fun s hs => by omega, fun s hs => by omega, rfl⟩ ?_ ?_
    · rintro m ⟨i, bu, cr, eo, c⟩ hm ⟨rfl, h2, h3, h4, h5⟩
      simp only at h2 h3 h4 h5
      subst h5
      have bn := puN_le (fun j => puCr n G (P j)) m
      simp only [fX1_gather_L76]
      obtain ⟨x, ex1, hx⟩ := p_bundleOf hv hk he hE hN h1 hm
      rw [xsBr_neg (by rw [puI_leN (by omega) (by omega)]; omega), xsBd_some ex1, xsCk_in (by omega) (by omega) (by omega), xsLt_eq, xsCk_in (by omega) (by omega) (by omega), xsLt_eq, xsCk_in (by omega) (by omega) (by omega), puI_clN (by omega), puUpd_eq, p_pairsIn hn (K := fun s i => puKd (G s) (G i) = 2) (fun a b ha hb => by rw [puKd_sym (hv.2 a ha) (hv.2 b hb)]) hl hx (fun i q => q.1), xsBd_sm]
      have pp := puCr_pairs hv (P m)
      have bd := puPr_le n (fun a b => (a < n ∧ puOn (G a) (P m)) ∧ (b < n ∧ puOn (G b) (P m)) ∧ ¬ puKd (G a) (G b) = 2)
      have bd2 : n * n ≤ 24 * 24 := Nat.mul_le_mul hn hn
      generalize puPr n (fun a b => (a < n ∧ puOn (G a) (P m)) ∧ (b < n ∧ puOn (G b) (P m)) ∧ ¬ puKd (G a) (G b) = 2) = w at pp bd ⊢
      have r1 : ∀ k, k < m + 1 → puSt (upd bu m x k) (fun s => s < n ∧ puOn (G s) (P k)) := by
        intro k hk
        by_cases e : k = m
        · subst e; rw [puUpd_eq]; exact hx
        · rw [puUpd_ne e]; exact h2 k (by omega)
      by_cases c : puCr n G (P m)
      · have := pp.mpr c
        rw [xsBr_neg (by rw [show (0 : Int32) = puI 0 by rfl, puI_le (by omega) (by omega) (by omega) (by omega)]; omega), xsCk_in (by omega) (by omega) (by omega), xsLt_eq, xsCk_in (by omega) (by omega) (by omega), xsLt_eq, xsLt_eq, xsBd_sm]
        simp only [fX1_gather_J146]
        rw [xsLt_eq, puI_clN (by omega), puI_s1, puI_s1]
        refine ⟨_, rfl, rfl, r1, fun k hk => ?_, puEo_s h4, ?_⟩
        · dsimp only
          by_cases e : k = m
          · subst e; rw [puUpd_eq]; unfold puXo; rw [puE_pos c]
          · rw [puUpd_ne e, puUpd_ne e]; exact h3 k (by omega)
        · dsimp only; rw [puN_s, puE_pos c]
      · have : ¬ 0 < w := fun q => c (pp.mp q)
        rw [xsBr_pos (by rw [show (0 : Int32) = puI 0 by rfl, puI_le (by omega) (by omega) (by omega) (by omega)]; omega), xsBd_sm]
        simp only [fX1_gather_J146]
        rw [xsLt_eq, puI_s1]
        refine ⟨_, rfl, rfl, r1, fun k hk => ?_, fun k hk hc => ?_, ?_⟩
        · dsimp only
          by_cases e : k = m
          · subst e; rw [puUpd_eq]; unfold puXo; rw [puE_neg c]; rfl
          · rw [puUpd_ne e]; exact h3 k (by omega)
        · dsimp only
          by_cases e : k = m
          · subst e; exact absurd hc c
          · exact h4 k (by omega) hc
        · dsimp only; rw [puN_s, puE_neg c]; rfl
    · rintro ⟨i, bu, cr, eo, c⟩ ⟨rfl, h2, h3, h4, h5⟩
      simp only [fX1_gather_L76]
      rw [xsBr_pos (by rw [puI_leN (by omega) (by omega)]; omega)]
      exact ⟨_, rfl, h2, h3, h4, h5⟩
  obtain ⟨r, e2, h2, h3, h4, h5⟩ := k2
  unfold fX1_gather
  rw [xsBd_some e1]
  simp only [fX1_gather_J74]
  rw [xsBd_some e2]
  simp only [fX1_gather_J152]
  exact puOk_some ⟨h2, h3, h4, h1, h5, rfl⟩
theorem pu_lesser : ∀ s, s < 24 → ∀ i, i < 32 → bt (((1 : Int32) <<< (nI s &&& 31)) - 1) i = decide (i < s) := by decide +kernel
theorem puSt_less {s : Nat} (hs : s < 24) : puSt (((1 : Int32) <<< (puI (s : Int) &&& 31)) - (1 : Int32)) (fun i => i < s) := fun i hi => by
  rw [← puI_nI, pu_lesser s hs i hi]; exact decide_eq_true_iff
/-- degrees and edges, as a list tells them -/
def puGr (N : Nat) (L : List (Nat × Nat)) (de : Nat → Int32) (ne : Int32) : Prop := (∀ e, e < N → de e = puI (puDg L e : Int)) ∧ ne = puI (L.length : Int)
theorem p_pieces {n N : Nat} {O : Nat → Nat → Prop} {bu le re de : Nat → Int32} {ne : Int32} {L : List (Nat × Nat)} (hn : n ≤ 24) (hN : N ≤ 324) (hbu : ∀ k, k < N → puSt (bu k) (fun i => O i k)) (hO : ∀ i k, O i k → i < n ∧ k < N) {s a z : Nat} (hs : s < n) (hle : le s = puI (a : Int)) (hre : re s = puI (z : Int)) (ha : O s a) (hz : O s z) (hr : ∀ k, O s k → a ≤ k ∧ k ≤ z) (hg : puGr N L de ne) :
    puOk (fX2_drawPieces bu le re (puI (N : Int)) de ne (puI (s : Int))) (fun o => puGr N (puEl O L s N) o.1 o.2) := by
  have aN := (hO s a ha).2
  have zN := (hO s z hz).2
  have stay : ∀ k, k ≤ a → puEl O L s k = L ∧ puLs (O s) k = -1 := by
    intro k
    induction k with
    | zero => intro _; exact ⟨rfl, rfl⟩
    | succ k ih =>
      intro hk
      obtain ⟨i1, i2⟩ := ih (by omega)
      have no : ¬ O s k := fun q => by have := (hr k q).1; omega
      exact ⟨(puEl_n (fun q => no q.1)).trans i1, by show puE (O s k) _ _ = _; rw [puE_neg no]; exact i2⟩
  have st1 : puEl O L s (a + 1) = L ∧ puLs (O s) (a + 1) = (a : Int) := by
    obtain ⟨i1, i2⟩ := stay a (Nat.le_refl _)
    refine ⟨(puEl_n (fun q => ?_)).trans i1, by show puE (O s a) _ _ = _; rw [puE_pos ha]⟩
    obtain ⟨-, j, e, -⟩ := q
    rw [i2] at e; omega
  have tail : ∀ m, z < m → m ≤ N → puEl O L s m = puEl O L s (z + 1) := by
    intro m
    induction m with
    | zero => intro h; omega
    | succ m ih =>
      intro h1 h2
      by_cases e : m = z
      · rw [e]
      · have no : ¬ O s m := fun q => by have := (hr m q).2; omega
        rw [puEl_n (fun q => no q.1)]; exact ih (by omega) (by omega)
  have az := (hr z hz).1
  have key : puOk (xsWh (fun s9 => fX2_drawPieces_L20 bu re (puI (N : Int)) (puI (s : Int)) (((1 : Int32) <<< (puI (s : Int) &&& 31)) - (1 : Int32)) s9.1 s9.2.1 s9.2.2.1 s9.2.2.2) (puI (a : Int), puI ((a + 1 : Nat) : Int), de, ne)) (fun r => puGr N (puEl O L s N) r.1 r.2) := by
    refine puFor (z - a) (fun m w => w.2.1 = puI ((a + 1 + m : Nat) : Int) ∧ (∃ j : Nat, w.1 = puI (j : Int) ∧ puLs (O s) (a + 1 + m) = (j : Int)) ∧ puGr N (puEl O L s (a + 1 + m)) w.2.2.1 w.2.2.2) _ ?_ ?_ 0 _ (Nat.zero_le _) ⟨rfl, ⟨a, rfl, st1.2⟩, by show puGr N (puEl O L s (a + 1)) _ _; rw [st1.1]; exact hg⟩
    · rintro m ⟨y5, y6, d, c⟩ hm ⟨rfl, ⟨j, hj1, hj2⟩, hg1, hg2⟩
      simp only at hj1 hg1 hg2
      subst hj1
      left
      have hkN : a + 1 + m < N := by omega
      have hor := puLs_or (O s) (a + 1 + m)
      have hjO : j < a + 1 + m ∧ O s j := by
        rcases hor with ⟨q, -⟩ | ⟨i, q1, q2, q3, -⟩
        · rw [hj2] at q; omega
        · have : i = j := by rw [hj2] at q2; omega
          subst this; exact ⟨q1, q3⟩
      simp only [fX2_drawPieces_L20]
      rw [xsCk_in (by omega) (by omega) (by omega), puI_clN (by omega), hre, xsBr_neg (by rw [puI_ltN (by omega) (by omega)]; omega), xsBr_neg (by rw [puI_leN (by omega) (by omega)]; omega), xsCk_in (by omega) (by omega) (by omega), puI_clN (by omega), pu_has _ (by omega), xsBd_sm]
      have hb := hbu _ hkN s (by omega)
      have step : puI ((a + 1 + m : Nat) : Int) + (1 : Int32) = puI ((a + 1 + (m + 1) : Nat) : Int) := puI_s1 _
      by_cases c : bt (bu (a + 1 + m)) s = true
      · have os := hb.mp c
        have nls : puLs (O s) (a + 1 + (m + 1)) = ((a + 1 + m : Nat) : Int) := by show puE (O s (a + 1 + m)) _ _ = _; rw [puE_pos os]; rfl
        rw [xsBr_neg (by rw [puB_pos c]; decide), xsCk_in (by omega) (by omega) (by omega), xsCk_in (by omega) (by omega) (by omega), puI_clN (by omega)]
        have sm := puSt_and (puSt_and (hbu j (by omega)) (hbu _ hkN)) (puSt_less (s := s) (by omega))
        have z0 := puSt_z sm
        by_cases c2 : puNw O s (a + 1 + m)
        · obtain ⟨-, i, e, hno⟩ := c2
          have : i = j := by rw [hj2] at e; omega
          subst this
          rw [xsBr_pos (z0.mpr (fun i' _ q => hno i' q.2 ⟨q.1.1, q.1.2⟩)), xsLt_eq]
          simp (disch := omega) only [xsCk_in, xsLt_eq, puI_clN, xsBd_sm, fX2_drawPieces_J109, fX2_drawPieces_J113]
          rw [step]
          refine ⟨_, rfl, rfl, ⟨_, rfl, nls⟩, fun e he => ?_, ?_⟩
          · dsimp only
            rw [show a + 1 + (m + 1) = a + 1 + m + 1 by omega, puEl_y os hj2 hno, puDg_app]
            have e1 := hg1 i (by omega); have e2 := hg1 _ hkN; have e3 := hg1 e he
            by_cases q1 : e = a + 1 + m
            · rw [q1, puUpd_eq, puUpd_ne (by omega), e2, puI_s1, if_pos (Or.inr rfl)]
            · rw [puUpd_ne q1]
              by_cases q2 : e = i
              · rw [q2, puUpd_eq, e1, puI_s1, if_pos (Or.inl rfl)]
              · rw [puUpd_ne q2, e3, if_neg (fun q => q.elim q2 q1)]; rfl
          · dsimp only
            rw [show a + 1 + (m + 1) = a + 1 + m + 1 by omega, puEl_y os hj2 hno, List.length_append, hg2, puI_s1]; rfl
        · have : ¬ ((bu j &&& bu (a + 1 + m)) &&& (((1 : Int32) <<< (puI (s : Int) &&& 31)) - (1 : Int32))) = 0 := by
            intro q
            refine c2 ⟨os, j, hj2, fun s' hs' w => ?_⟩
            exact z0.mp q s' (by omega) ⟨⟨w.1, w.2⟩, hs'⟩
          rw [xsBr_neg this, xsBd_sm]
          simp only [fX2_drawPieces_J109, xsBd_sm, fX2_drawPieces_J113, xsLt_eq]
          rw [step]
          refine ⟨_, rfl, rfl, ⟨_, rfl, nls⟩, ?_⟩
          show puGr N (puEl O L s (a + 1 + m + 1)) _ _
          rw [puEl_n c2]; exact ⟨hg1, hg2⟩
      · have no : ¬ O s (a + 1 + m) := fun q => c (hb.mpr q)
        rw [xsBr_pos (by rw [puB_neg c]), xsBd_sm]
        simp only [fX2_drawPieces_J113, xsLt_eq]
        rw [step]
        refine ⟨_, rfl, rfl, ⟨j, rfl, ?_⟩, ?_⟩
        · show puE (O s (a + 1 + m)) _ _ = _
          rw [puE_neg no]; exact hj2
        · show puGr N (puEl O L s (a + 1 + m + 1)) _ _
          rw [puEl_n (fun q => no q.1)]; exact ⟨hg1, hg2⟩
    · rintro ⟨y5, y6, d, c⟩ ⟨rfl, -, hg⟩
      simp only at hg
      simp only [fX2_drawPieces_L20]
      rw [xsCk_in (by omega) (by omega) (by omega), puI_clN (by omega), hre, xsBr_pos (by rw [puI_ltN (by omega) (by omega)]; omega)]
      refine ⟨_, rfl, ?_⟩
      rw [show a + 1 + (z - a) = z + 1 by omega] at hg
      rw [tail N zN (Nat.le_refl _)]; exact hg
  obtain ⟨r, e, h⟩ := key
  unfold fX2_drawPieces
  rw [xsLt_eq, xsCk_in (by omega) (by omega) (by omega), xsLt_eq, xsLt_eq, puI_clN (by omega), hle, puI_s1, xsBd_some e]
  exact puOk_some h
theorem p_graph {n N : Nat} {O : Nat → Nat → Prop} {bu le re de : Nat → Int32} {ne : Int32} (hn : n ≤ 24) (hN : N ≤ 324) (hbu : ∀ k, k < N → puSt (bu k) (fun i => O i k)) (hO : ∀ i k, O i k → i < n ∧ k < N) (he : ∀ s, s < n → ∃ a z : Nat, le s = puI (a : Int) ∧ re s = puI (z : Int) ∧ O s a ∧ O s z ∧ ∀ k, O s k → a ≤ k ∧ k ≤ z) :
    puOk (fX2_draw bu le re (puI (N : Int)) de ne (puI (n : Int))) (fun o => puGr N (puES O N n) o.1 o.2) := by
  have k1 : puOk (xsWh (fun s3 => fX2_draw_L7 (puI (N : Int)) s3.1 s3.2) ((0 : Int32), de)) (fun r => ∀ e, e < N → r e = 0) := by
    refine puFor1 N (fun k z => z.1 = puI (k : Int) ∧ ∀ e, e < k → z.2 e = 0) _ ⟨rfl, fun e he => by omega⟩ ?_ ?_
    · rintro k ⟨i, d⟩ hk ⟨rfl, h⟩
      simp only [fX2_draw_L7]
      rw [xsBr_neg (by rw [puI_leN (by omega) (by omega)]; omega), xsCk_in (by omega) (by omega) (by omega), xsLt_eq, xsLt_eq, puI_clN (by omega), puI_s1]
      refine ⟨_, rfl, rfl, fun e he => ?_⟩
      dsimp only
      by_cases q : e = k
      · rw [q, puUpd_eq]
      · rw [puUpd_ne q]; exact h e (by omega)
    · rintro ⟨i, d⟩ ⟨rfl, h⟩
      simp only [fX2_draw_L7]
      rw [xsBr_pos (by rw [puI_leN (by omega) (by omega)]; omega)]
      exact ⟨_, rfl, h⟩
  obtain ⟨d0, e1, h1⟩ := k1
  have k2 : puOk (xsWh (fun s8 => fX2_draw_L30 bu le re (puI (N : Int)) (puI (n : Int)) s8.1 s8.2.1 s8.2.2) ((0 : Int32), d0, (0 : Int32))) (fun r => puGr N (puES O N n) r.1 r.2) := by
    refine puFor1 n (fun k z => z.1 = puI (k : Int) ∧ puGr N (puES O N k) z.2.1 z.2.2) _ ⟨rfl, fun e he => (h1 e he).trans rfl, rfl⟩ ?_ ?_
    · rintro k ⟨i, d, c⟩ hk ⟨rfl, h⟩
      simp only at h
      simp only [fX2_draw_L30]
      obtain ⟨a, z, q1, q2, q3, q4, q5⟩ := he k hk
      obtain ⟨o, eo, ho⟩ := p_pieces hn hN hbu hO hk q1 q2 q3 q4 q5 h
      rw [xsBr_neg (by rw [puI_leN (by omega) (by omega)]; omega), xsBd_some eo, xsLt_eq, puI_s1]
      exact ⟨_, rfl, rfl, ho⟩
    · rintro ⟨i, d, c⟩ ⟨rfl, h⟩
      simp only [fX2_draw_L30]
      rw [xsBr_pos (by rw [puI_leN (by omega) (by omega)]; omega)]
      exact ⟨_, rfl, h⟩
  obtain ⟨r, e2, h2⟩ := k2
  unfold fX2_draw
  rw [xsBd_some e1]
  simp only [fX2_draw_J28]
  rw [xsBd_some e2]
  exact puOk_some h2
