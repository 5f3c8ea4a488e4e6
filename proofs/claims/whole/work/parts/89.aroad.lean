/-! PURE: ROAD: levels, and a row of those found -/
def ro_T (O : Nat → Nat → Prop) (f e : Nat) : Prop := ∃ s, puCs O s f e ∨ puCs O s e f
def rd (T : Nat → Nat → Prop) (a : Nat) : Nat → Nat → Prop
  | 0, e => e = a
  | k + 1, e => rd T a k e ∨ ∃ f, rd T a k f ∧ T f e
def rdx (T : Nat → Nat → Prop) (a k e : Nat) : Prop := rd T a k e ∧ ∀ j, j < k → ¬ rd T a j e
theorem rd_mono {T : Nat → Nat → Prop} {a k e : Nat} (h : rd T a k e) : ∀ j, k ≤ j → rd T a j e := by
  intro j hj
  induction j with
  | zero => obtain rfl : k = 0 := by omega
            exact h
  | succ j ih =>
    by_cases c : k = j + 1
    · rw [← c]; exact h
    · exact Or.inl (ih (by omega))
theorem rdx_of {T : Nat → Nat → Prop} {a e : Nat} : ∀ k, rd T a k e → ∃ d, d ≤ k ∧ rdx T a d e
  | 0, h => ⟨0, Nat.le_refl _, h, fun j hj => by omega⟩
  | k + 1, h => by
    by_cases c : rd T a k e
    · obtain ⟨d, h1, h2⟩ := rdx_of k c
      exact ⟨d, by omega, h2⟩
    · exact ⟨k + 1, Nat.le_refl _, h, fun j hj q => c (rd_mono q k (by omega))⟩
theorem rdx_u {T : Nat → Nat → Prop} {a d d' e : Nat} (h : rdx T a d e) (h2 : rdx T a d' e) : d = d' := by
  rcases Nat.lt_trichotomy d d' with q | q | q
  · exact absurd h.1 (h2.2 d q)
  · exact q
  · exact absurd h2.1 (h.2 d' q)
theorem rdx_pre {T : Nat → Nat → Prop} {a d e : Nat} (h : rdx T a (d + 1) e) : ∃ f, rdx T a d f ∧ T f e := by
  obtain ⟨h1, h2⟩ := h
  rcases h1 with h1 | ⟨f, h3, h4⟩
  · exact absurd h1 (h2 d (by omega))
  · refine ⟨f, ⟨h3, fun j hj q => ?_⟩, h4⟩
    exact h2 (j + 1) (by omega) (Or.inr ⟨f, q, h4⟩)
theorem rdx_chain {T : Nat → Nat → Prop} {a : Nat} : ∀ d e, rdx T a d e → ∀ j, j ≤ d → ∃ f, rdx T a j f
  | 0, e, h, j, hj => ⟨e, by obtain rfl : j = 0 := by omega
                             exact h⟩
  | d + 1, e, h, j, hj => by
    by_cases c : j = d + 1
    · rw [c]; exact ⟨e, h⟩
    · obtain ⟨f, h1, -⟩ := rdx_pre h
      exact rdx_chain d f h1 j (by omega)
theorem rd_in {T : Nat → Nat → Prop} {a N : Nat} (ha : a < N) (hT : ∀ f e, T f e → e < N) : ∀ k e, rd T a k e → e < N
  | 0, e, h => by have q : e = a := h; omega
  | k + 1, e, h => by
    rcases h with h | ⟨f, -, h⟩
    · exact rd_in ha hT k e h
    · exact hT f e h
theorem rdx_lt {T : Nat → Nat → Prop} {a N : Nat} (ha : a < N) (hT : ∀ f e, T f e → e < N) {d e : Nat} (h : rdx T a d e) : d < N := by
  have ch := rdx_chain d e h
  have := fb_holes N (d + 1) (fun j => @dite _ (j ≤ d) (Classical.propDecidable _) (fun q => Classical.choose (ch j q)) (fun _ => 0)) (fun j hj => by
    have q : j ≤ d := by omega
    simp only [dif_pos q]
    exact rd_in ha hT j _ (Classical.choose_spec (ch j q)).1) (fun i j hij hj e => by
    have q : i ≤ d := by omega
    have r : j ≤ d := by omega
    simp only [dif_pos q, dif_pos r] at e
    have s1 := Classical.choose_spec (ch i q)
    have s2 := Classical.choose_spec (ch j r)
    rw [e] at s1
    have := rdx_u s1 s2
    omega)
  omega
def rd_ds (N : Nat) (T : Nat → Nat → Prop) (a b : Nat) (r : Int32) : Prop := (∃ k : Nat, k < N ∧ rdx T a k b ∧ r = puI (k : Int)) ∨ ((∀ k, ¬ rd T a k b) ∧ r = -1)
theorem rd_ds_u {N : Nat} {T : Nat → Nat → Prop} {a b : Nat} {r q : Int32} (h : rd_ds N T a b r) (h2 : rd_ds N T a b q) : r = q := by
  rcases h with ⟨k, k1, k2, rfl⟩ | ⟨k1, rfl⟩
  · rcases h2 with ⟨j, j1, j2, rfl⟩ | ⟨j1, rfl⟩
    · rw [rdx_u k2 j2]
    · exact absurd k2.1 (j1 k)
  · rcases h2 with ⟨j, j1, j2, rfl⟩ | ⟨j1, rfl⟩
    · exact absurd j2.1 (k1 j)
    · rfl
/-- some of those to be found from one have been -/
def ro_R (N : Nat) (T : Nat → Nat → Prop) (k Dk q0 : Nat) (g0 D0 : Nat → Nat) (far0 far qu : Nat → Int32) (q : Int32) : Prop := ∃ (m : Nat) (g D : Nat → Nat), q = puI (m : Int) ∧ q0 ≤ m ∧ (∀ j, j < q0 → g j = g0 j ∧ D j = D0 j) ∧ (∀ j, q0 ≤ j → j < m → D j = Dk + 1 ∧ T k (g j) ∧ far0 (g j) = -1) ∧ (∀ j, j < m → qu j = puI (g j : Int) ∧ g j < N ∧ far (g j) = puI (D j : Int) ∧ D j < 1000) ∧ (∀ e, e < N → far e ≠ -1 → ∃ j, j < m ∧ g j = e) ∧ (∀ i j, i < j → j < m → g i ≠ g j) ∧ ∀ e, e < N → far0 e ≠ -1 → far e ≠ -1
theorem ro_le {N m : Nat} {g : Nat → Nat} (h1 : ∀ j, j < m → g j < N) (h2 : ∀ i j, i < j → j < m → g i ≠ g j) : m ≤ N := fb_holes N m g h1 h2
theorem ro_nz {z : Nat} (hz : z < 100000) : puI (z : Int) ≠ -1 := by rw [show (-1 : Int32) = puI (-1) by rfl, Ne, puI_eq (by omega) (by omega) (by omega) (by omega)]; omega
theorem p_reach {N : Nat} {T : Nat → Nat → Prop} {k Dk q0 : Nat} {g0 D0 : Nat → Nat} {far0 far qu : Nat → Int32} {q : Int32} (hN : N ≤ 324) (hD : Dk < 900) (h : ro_R N T k Dk q0 g0 D0 far0 far qu q) {e : Nat} (he : e < N) (ht : T k e) : puOk (fX2_reach far qu q (puI (e : Int)) (puI ((Dk + 1 : Nat) : Int))) (fun o => ro_R N T k Dk q0 g0 D0 far0 o.1 o.2.1 o.2.2 ∧ o.1 e ≠ -1 ∧ ∀ f, f < N → far f ≠ -1 → o.1 f ≠ -1) := by
  obtain ⟨m, g, D, rfl, h1, h2, h3, h4, h5, h6, h7⟩ := h
  unfold fX2_reach
  rw [xsCk_in (by omega) (by omega) (by omega), puI_clN (by omega)]
  by_cases c : far e = -1
  case neg =>
    rw [xsBr_neg c]
    exact puOk_some ⟨⟨m, g, D, rfl, h1, h2, h3, h4, h5, h6, h7⟩, c, fun f _ z => z⟩
  have fresh : ∀ j, j < m → g j ≠ e := by
    intro j hj z
    obtain ⟨-, -, w, b⟩ := h4 j hj
    rw [z, c] at w
    exact ro_nz (by omega) w.symm
  have mle : m + 1 ≤ N := ro_le (m := m + 1) (g := fun j => if j < m then g j else e) (fun j hj => by
    try dsimp only
    by_cases z : j < m
    · rw [if_pos z]; exact (h4 j z).2.1
    · rw [if_neg z]; exact he) (fun i j hij hj => by
    try dsimp only
    rw [if_pos (show i < m by omega)]
    by_cases z : j < m
    · rw [if_pos z]; exact h6 i j hij z
    · rw [if_neg z]; exact fresh i (by omega))
  rw [xsBr_pos c, xsBr_neg (by rw [show (324 : Int32) = puI ((324 : Nat) : Int) by rfl, puI_leN (by omega) (by omega)]; omega), xsLt_eq, xsCk_in (by omega) (by omega) (by omega), xsLt_eq, puI_s1, xsLt_eq, puI_clN (by omega), xsCk_in (by omega) (by omega) (by omega)]
  refine puOk_some ⟨⟨m + 1, fun j => if j < m then g j else e, fun j => if j < m then D j else Dk + 1, rfl, by omega, fun j hj => ?_, fun j hj hj2 => ?_, fun j hj => ?_, fun f hf hz => ?_, fun i j hij hj => ?_, fun f hf hz => ?_⟩, ?_, fun f hf hz => ?_⟩
  · dsimp only
    rw [if_pos (by omega), if_pos (by omega)]; exact h2 j hj
  · dsimp only
    by_cases z : j < m
    · rw [if_pos z, if_pos z]; exact h3 j hj z
    · rw [if_neg z, if_neg z]
      refine ⟨rfl, ht, ?_⟩
      apply Classical.byContradiction
      intro w
      exact h7 e he w c
  · dsimp only
    by_cases z : j < m
    · rw [if_pos z, if_pos z]
      obtain ⟨a1, a2, a3, a4⟩ := h4 j z
      rw [puUpd_ne (by omega), puUpd_ne (fresh j z)]
      exact ⟨a1, a2, a3, a4⟩
    · obtain rfl : j = m := by omega
      rw [if_neg z, if_neg z, puUpd_eq, puUpd_eq]
      exact ⟨rfl, he, rfl, by omega⟩
  · by_cases z : f = e
    · exact ⟨m, by omega, by dsimp only; rw [if_neg (by omega)]; exact z.symm⟩
    · dsimp only at hz
      rw [puUpd_ne z] at hz
      obtain ⟨j, j1, j2⟩ := h5 f hf hz
      exact ⟨j, by omega, by dsimp only; rw [if_pos j1]; exact j2⟩
  · dsimp only
    rw [if_pos (show i < m by omega)]
    by_cases z : j < m
    · rw [if_pos z]; exact h6 i j hij z
    · rw [if_neg z]; exact fresh i (by omega)
  · dsimp only
    by_cases z : f = e
    · subst z; rw [puUpd_eq]; exact ro_nz (by omega)
    · rw [puUpd_ne z]; exact h7 f hf hz
  · dsimp only
    rw [puUpd_eq]; exact ro_nz (by omega)
  · dsimp only
    by_cases z : f = e
    · subst z; rw [puUpd_eq]; exact ro_nz (by omega)
    · rw [puUpd_ne z]; exact hz
theorem ro_far {N : Nat} {T : Nat → Nat → Prop} {k Dk q0 i : Nat} {g0 D0 : Nat → Nat} {far0 far qu : Nat → Int32} {q : Int32} (h : ro_R N T k Dk q0 g0 D0 far0 far qu q) (hi : i < q0) (hk : g0 i = k) (hd : D0 i = Dk) : far k = puI (Dk : Int) := by
  obtain ⟨m, g, D, rfl, h1, h2, h3, h4, -⟩ := h
  have := (h4 i (by omega)).2.2.1
  rw [(h2 i hi).1, (h2 i hi).2, hk, hd] at this
  exact this
theorem p_around12 {N : Nat} {O : Nat → Nat → Prop} {k Dk q0 i : Nat} {g0 D0 : Nat → Nat} {far0 far qu : Nat → Int32} {q : Int32} {bu : Nat → Int32} (hN : N ≤ 324) (hD : Dk < 900) (hO : ∀ s e, O s e → s < 24 ∧ e < N) (hb : ∀ e, e < N → puSt (bu e) (fun s => O s e)) (hk : k < N) (h : ro_R N (ro_T O) k Dk q0 g0 D0 far0 far qu q) (hi : i < q0) (gk : g0 i = k) (dk : D0 i = Dk) :
    puOk (xsWh (fun s9 => fX2_reachAround_L12 bu (puI (k : Int)) s9.1 s9.2.1 s9.2.2.1 s9.2.2.2.1 s9.2.2.2.2) (bu k, puI (k : Int) - 1, far, qu, q)) (fun r => ro_R N (ro_T O) k Dk q0 g0 D0 far0 r.1 r.2.1 r.2.2 ∧ ∀ s f, puCs O s f k → r.1 f ≠ -1) := by
  refine puFor k (fun t z => puSt z.1 (fun s => O s k ∧ ∀ f, f < k → k < f + t + 1 → ¬ O s f) ∧ z.2.1 = puI ((k : Int) - 1 - (t : Int)) ∧ ro_R N (ro_T O) k Dk q0 g0 D0 far0 z.2.2.1 z.2.2.2.1 z.2.2.2.2 ∧ ∀ s f, k < f + t + 1 → puCs O s f k → z.2.2.1 f ≠ -1) _ ?_ ?_ 0 _ (Nat.zero_le _) ⟨puSt_c (hb k hk) (fun s _ => ⟨fun z => ⟨z, fun f h1 h2 => by omega⟩, fun z => z.1⟩), by show puI (k : Int) - 1 = _; rw [show (1 : Int32) = puI 1 by rfl, puI_sub]; congr 1; omega, h, fun s f h1 h2 => by have := h2.1; omega⟩
  · rintro t ⟨ah, y5, far, qu, q⟩ ht ⟨q1, q2, q3, q4⟩
    simp only at q1 q2 q3 q4
    subst q2
    obtain ⟨e, he⟩ : ∃ e : Nat, (k : Int) - 1 - (t : Int) = (e : Int) := ⟨k - 1 - t, by omega⟩
    rw [he]
    have z1 := puSt_z q1
    simp only [fX2_reachAround_L12]
    rw [xsBr_neg (by rw [show (0 : Int32) = puI 0 by rfl, puI_lt (by omega) (by omega) (by omega) (by omega)]; omega)]
    by_cases c : ah = 0
    · rw [xsBr_pos c]
      refine Or.inr ⟨_, rfl, q3, fun s f hf => ?_⟩
      by_cases w : k < f + t + 1
      · exact q4 s f w hf
      · exfalso
        obtain ⟨f1, f2, f3, f4⟩ := hf
        exact z1.mp c s (by have := (hO s k f3).1; omega) ⟨f3, fun i' i1 i2 => f4 i' (by omega) i1⟩
    have z2 := puSt_z (puSt_and (hb e (by omega)) q1)
    rw [xsBr_neg c, xsCk_in (by omega) (by omega) (by omega), puI_clN (by omega), puI_clN (by omega)]
    have down : puI (e : Int) + (-1 : Int32) = puI ((k : Int) - 1 - ((t + 1 : Nat) : Int)) := by rw [show (-1 : Int32) = puI (-1) by rfl, puI_add]; congr 1; omega
    by_cases d : bu e &&& ah = 0
    · rw [xsBr_pos d, xsBd_sm]
      simp only [fX2_reachAround_J59]
      rw [xsLt_eq, down]
      refine Or.inl ⟨_, rfl, puSt_c q1 (fun s hs => ⟨fun z => ⟨z.1, fun f f1 f2 => ?_⟩, fun z => ⟨z.1, fun f f1 f2 => z.2 f f1 (by omega)⟩⟩), rfl, q3, fun s f f1 f2 => ?_⟩
      · by_cases w : f = e
        · subst w; exact fun y => z2.mp d s hs ⟨y, z⟩
        · exact z.2 f f1 (by omega)
      · by_cases w : f = e
        · subst w
          exfalso
          obtain ⟨g1, g2, g3, g4⟩ := f2
          exact z2.mp d s (by have := (hO s k g3).1; omega) ⟨g2, g3, fun i' i1 i2 => g4 i' (by omega) i1⟩
        · exact q4 s f (by omega) f2
    · obtain ⟨s, hs, o1, o2, o3⟩ : ∃ s, s < 32 ∧ O s e ∧ O s k ∧ ∀ f, f < k → k < f + t + 1 → ¬ O s f := by
        apply Classical.byContradiction
        intro w
        exact d (z2.mpr (fun s hs y => w ⟨s, hs, y.1, y.2.1, y.2.2⟩))
      have cs : puCs O s e k := ⟨by omega, o1, o2, fun f f1 f2 => o3 f f2 (by omega)⟩
      obtain ⟨r, er, r1, r2, r3⟩ := p_reach hN hD q3 (show e < N by omega) (show ro_T O k e from ⟨s, Or.inr cs⟩)
      rw [xsBr_neg d, xsCk_in (by omega) (by omega) (by omega), ro_far q3 hi gk dk, puI_s1, xsBd_some er, xsCk_in (by omega) (by omega) (by omega), xsLt_eq, xsBd_sm]
      simp only [fX2_reachAround_J59]
      rw [xsLt_eq, down]
      refine Or.inl ⟨_, rfl, puSt_c (puSt_and q1 (puSt_not (hb e (by omega)))) (fun s' hs' => ⟨fun z => ⟨z.1.1, fun f f1 f2 => ?_⟩, fun z => ⟨⟨z.1, fun f f1 f2 => z.2 f f1 (by omega)⟩, z.2 e (by omega) (by omega)⟩⟩), rfl, r1, fun s' f f1 f2 => ?_⟩
      · by_cases w : f = e
        · subst w; exact z.2
        · exact z.1.2 f f1 (by omega)
      · by_cases w : f = e
        · subst w; exact r2
        · exact r3 f (by have := f2.1; omega) (q4 s' f (by omega) f2)
  · rintro ⟨ah, y5, far, qu, q⟩ ⟨q1, q2, q3, q4⟩
    simp only at q1 q2 q3 q4
    subst q2
    simp only [fX2_reachAround_L12]
    rw [xsBr_pos (by rw [show (0 : Int32) = puI 0 by rfl, puI_lt (by omega) (by omega) (by omega) (by omega)]; omega)]
    exact ⟨_, rfl, q3, fun s f hf => q4 s f (by omega) hf⟩
theorem p_around78 {N : Nat} {O : Nat → Nat → Prop} {k Dk q0 i : Nat} {g0 D0 : Nat → Nat} {far0 far qu : Nat → Int32} {q : Int32} {bu : Nat → Int32} (hN : N ≤ 324) (hD : Dk < 900) (hO : ∀ s e, O s e → s < 24 ∧ e < N) (hb : ∀ e, e < N → puSt (bu e) (fun s => O s e)) (hk : k < N) (h : ro_R N (ro_T O) k Dk q0 g0 D0 far0 far qu q) (hi : i < q0) (gk : g0 i = k) (dk : D0 i = Dk) {sz : Int32} (hsz : sz = puI (N : Int)) (H : ∀ s f, puCs O s f k → far f ≠ -1) :
    puOk (xsWh (fun s21 => fX2_reachAround_L78 bu sz (puI (k : Int)) s21.1 s21.2.1 s21.2.2.1 s21.2.2.2.1 s21.2.2.2.2) (bu k, puI (k : Int) + 1, far, qu, q)) (fun r => ro_R N (ro_T O) k Dk q0 g0 D0 far0 r.1 r.2.1 r.2.2 ∧ ∀ f, ro_T O k f → r.1 f ≠ -1) := by
  subst hsz
  refine puFor N (fun t z => k + 1 ≤ t ∧ puSt z.1 (fun s => O s k ∧ ∀ f, k < f → f < t → ¬ O s f) ∧ z.2.1 = puI (t : Int) ∧ ro_R N (ro_T O) k Dk q0 g0 D0 far0 z.2.2.1 z.2.2.2.1 z.2.2.2.2 ∧ (∀ s f, f < t → puCs O s k f → z.2.2.1 f ≠ -1) ∧ ∀ s f, puCs O s f k → z.2.2.1 f ≠ -1) _ ?_ ?_ (k + 1) _ (by omega) ⟨Nat.le_refl _, puSt_c (hb k hk) (fun s _ => ⟨fun z => ⟨z, fun f h1 h2 => by omega⟩, fun z => z.1⟩), puI_s1 k, h, fun s f h1 h2 => by have := h2.1; omega, H⟩
  · rintro e ⟨ah, y5, far, qu, q⟩ he ⟨q0', q1, q2, q3, q4, q5⟩
    simp only at q0' q1 q2 q3 q4 q5
    subst q2
    have z1 := puSt_z q1
    simp only [fX2_reachAround_L78]
    rw [pu_go he (by omega)]
    by_cases c : ah = 0
    · rw [xsBr_pos c]
      refine Or.inr ⟨_, rfl, q3, fun f hf => ?_⟩
      obtain ⟨s, hf | hf⟩ := hf
      · by_cases w : f < e
        · exact q4 s f w hf
        · exfalso
          obtain ⟨f1, f2, f3, f4⟩ := hf
          exact z1.mp c s (by have := (hO s k f2).1; omega) ⟨f2, fun i' i1 i2 => f4 i' i1 (by omega)⟩
      · exact q5 s f hf
    have z2 := puSt_z (puSt_and (hb e he) q1)
    rw [xsBr_neg c, xsCk_in (by omega) (by omega) (by omega), puI_clN (by omega), puI_clN (by omega)]
    by_cases d : bu e &&& ah = 0
    · rw [xsBr_pos d, xsBd_sm]
      simp only [fX2_reachAround_J133]
      rw [xsLt_eq, puI_s1]
      refine Or.inl ⟨_, rfl, by omega, puSt_c q1 (fun s hs => ⟨fun z => ⟨z.1, fun f f1 f2 => ?_⟩, fun z => ⟨z.1, fun f f1 f2 => z.2 f f1 (by omega)⟩⟩), rfl, q3, fun s f f1 f2 => ?_, q5⟩
      · by_cases w : f = e
        · subst w; exact fun y => z2.mp d s hs ⟨y, z⟩
        · exact z.2 f f1 (by omega)
      · by_cases w : f = e
        · subst w
          exfalso
          obtain ⟨g1, g2, g3, g4⟩ := f2
          exact z2.mp d s (by have := (hO s k g2).1; omega) ⟨g3, g2, fun i' i1 i2 => g4 i' i1 (by omega)⟩
        · exact q4 s f (by omega) f2
    · obtain ⟨s, hs, o1, o2, o3⟩ : ∃ s, s < 32 ∧ O s e ∧ O s k ∧ ∀ f, k < f → f < e → ¬ O s f := by
        apply Classical.byContradiction
        intro w
        exact d (z2.mpr (fun s hs y => w ⟨s, hs, y.1, y.2.1, y.2.2⟩))
      have cs : puCs O s k e := ⟨by omega, o2, o1, fun f f1 f2 => o3 f f1 f2⟩
      obtain ⟨r, er, r1, r2, r3⟩ := p_reach hN hD q3 he (show ro_T O k e from ⟨s, Or.inl cs⟩)
      rw [xsBr_neg d, xsCk_in (by omega) (by omega) (by omega), ro_far q3 hi gk dk, puI_s1, xsBd_some er, xsCk_in (by omega) (by omega) (by omega), xsLt_eq, xsBd_sm]
      simp only [fX2_reachAround_J133]
      rw [xsLt_eq, puI_s1]
      refine Or.inl ⟨_, rfl, by omega, puSt_c (puSt_and q1 (puSt_not (hb e he))) (fun s' hs' => ⟨fun z => ⟨z.1.1, fun f f1 f2 => ?_⟩, fun z => ⟨⟨z.1, fun f f1 f2 => z.2 f f1 (by omega)⟩, z.2 e (by omega) (by omega)⟩⟩), rfl, r1, fun s' f f1 f2 => ?_, fun s' f f2 => r3 f (by have := f2.1; omega) (q5 s' f f2)⟩
      · by_cases w : f = e
        · subst w; exact z.2
        · exact z.1.2 f f1 (by omega)
      · by_cases w : f = e
        · subst w; exact r2
        · exact r3 f (by omega) (q4 s' f (by omega) f2)
  · rintro ⟨ah, y5, far, qu, q⟩ ⟨q0', q1, q2, q3, q4, q5⟩
    simp only at q1 q2 q3 q4 q5
    subst q2
    simp only [fX2_reachAround_L78]
    rw [pu_out (by omega)]
    refine ⟨_, rfl, q3, fun f hf => ?_⟩
    obtain ⟨s, hf | hf⟩ := hf
    · exact q4 s f (hO s f hf.2.2.1).2 hf
    · exact q5 s f hf
theorem p_around {N : Nat} {O : Nat → Nat → Prop} {k Dk q0 i : Nat} {g0 D0 : Nat → Nat} {far0 far qu : Nat → Int32} {q : Int32} {bu : Nat → Int32} (hN : N ≤ 324) (hD : Dk < 900) (hO : ∀ s e, O s e → s < 24 ∧ e < N) (hb : ∀ e, e < N → puSt (bu e) (fun s => O s e)) (hk : k < N) (h : ro_R N (ro_T O) k Dk q0 g0 D0 far0 far qu q) (hi : i < q0) (gk : g0 i = k) (dk : D0 i = Dk) {sz : Int32} (hsz : sz = puI (N : Int)) :
    puOk (fX2_reachAround bu sz far qu q (puI (k : Int))) (fun r => ro_R N (ro_T O) k Dk q0 g0 D0 far0 r.1 r.2.1 r.2.2 ∧ ∀ f, ro_T O k f → r.1 f ≠ -1) := by
  obtain ⟨r, er, r1, r2⟩ := p_around12 hN hD hO hb hk h hi gk dk
  obtain ⟨r', er', h'⟩ := p_around78 hN hD hO hb hk r1 hi gk dk hsz r2
  unfold fX2_reachAround
  rw [xsCk_in (by omega) (by omega) (by omega), puI_clN (by omega), xsLt_eq, xsLt_eq, xsBd_some er]
  unfold fX2_reachAround_J65
  rw [xsCk_in (by omega) (by omega) (by omega), puI_clN (by omega), xsLt_eq, xsLt_eq, xsBd_some er']
  exact puOk_some h'
/-- the row of those found, the first i of them looked around from -/
def ro_I (N : Nat) (T : Nat → Nat → Prop) (a i : Nat) (far qu : Nat → Int32) (q : Int32) : Prop := ∃ (m : Nat) (g D : Nat → Nat), q = puI (m : Int) ∧ i ≤ m ∧ 1 ≤ m ∧ g 0 = a ∧ (∀ j, j < m → qu j = puI (g j : Int) ∧ g j < N ∧ far (g j) = puI (D j : Int) ∧ rdx T a (D j) (g j)) ∧ (∀ e, e < N → far e ≠ -1 → ∃ j, j < m ∧ g j = e) ∧ (∀ x y, x < y → y < m → g x ≠ g y ∧ D x ≤ D y) ∧ (i < m → ∀ j, j < m → D j ≤ D i + 1) ∧ (∀ j, j < i → ∀ f, T (g j) f → far f ≠ -1) ∧ (i < m → ∀ v d, rdx T a d v → d < D i → ∃ j, j < i ∧ g j = v)
theorem ro_next {N : Nat} {T : Nat → Nat → Prop} {a i : Nat} (hN : N ≤ 324) (ha : a < N) (hT : ∀ f e, T f e → e < N) {far qu far' qu' : Nat → Int32} {q' : Int32} {m : Nat} {g D : Nat → Nat} (him : i < m) (g0 : g 0 = a) (hb : ∀ j, j < m → qu j = puI (g j : Int) ∧ g j < N ∧ far (g j) = puI (D j : Int) ∧ rdx T a (D j) (g j)) (hc : ∀ e, e < N → far e ≠ -1 → ∃ j, j < m ∧ g j = e) (hd : ∀ x y, x < y → y < m → g x ≠ g y ∧ D x ≤ D y) (he : ∀ j, j < m → D j ≤ D i + 1) (hf : ∀ j, j < i → ∀ f, T (g j) f → far f ≠ -1) (hg : ∀ v d, rdx T a d v → d < D i → ∃ j, j < i ∧ g j = v)
    (hr : ro_R N T (g i) (D i) m g D far far' qu' q') (hH : ∀ f, T (g i) f → far' f ≠ -1) : ro_I N T a (i + 1) far' qu' q' := by
  obtain ⟨m', g', D', rfl, h1, h2, h3, h4, h5, h6, h7⟩ := hr
  have seen : ∀ j, j < m → far (g j) ≠ -1 := fun j hj => by
    obtain ⟨-, -, w, x⟩ := hb j hj
    rw [w]
    exact ro_nz (by have := rdx_lt ha hT x; omega)
  -- what is at a lesser way is found already
  have old : ∀ v d, rdx T a d v → d ≤ D i → far v ≠ -1 := by
    intro v d hv hd2
    rcases Nat.lt_or_ge d (D i) with z | z
    · obtain ⟨j, j1, j2⟩ := hg v d hv z
      rw [← j2]; exact seen j (by omega)
    · cases d with
      | zero =>
        have e : v = a := hv.1
        rw [e, ← g0]; exact seen 0 (by omega)
      | succ d =>
        obtain ⟨f, f1, f2⟩ := rdx_pre hv
        obtain ⟨j, j1, j2⟩ := hg f d f1 (by omega)
        exact hf j j1 v (by rw [j2]; exact f2)
  have newd : ∀ j, m ≤ j → j < m' → rdx T a (D i + 1) (g' j) := by
    intro j hj hj2
    obtain ⟨k1, k2, k3⟩ := h3 j hj hj2
    refine ⟨Or.inr ⟨g i, (hb i him).2.2.2.1, k2⟩, fun y hy hrd => ?_⟩
    obtain ⟨d, d1, d2⟩ := rdx_of y hrd
    exact old _ d d2 (by omega) k3
  have Dle : ∀ j, j < m' → D' j ≤ D i + 1 := by
    intro j hj
    by_cases z : j < m
    · rw [(h2 j z).2]; exact he j z
    · rw [(h3 j (by omega) hj).1]; exact Nat.le_refl _
  refine ⟨m', g', D', rfl, by omega, by omega, by rw [(h2 0 (by omega)).1]; exact g0, fun j hj => ?_, h5, fun x y hxy hy => ⟨h6 x y hxy hy, ?_⟩, fun hi j hj => ?_, fun j hj f hTf => ?_, fun hi v d hv hd2 => ?_⟩
  · obtain ⟨k1, k2, k3, -⟩ := h4 j hj
    refine ⟨k1, k2, k3, ?_⟩
    by_cases z : j < m
    · rw [(h2 j z).1, (h2 j z).2]; exact (hb j z).2.2.2
    · rw [(h3 j (by omega) hj).1]; exact newd j (by omega) hj
  · by_cases z : y < m
    · rw [(h2 y z).2, (h2 x (by omega)).2]; exact (hd x y hxy z).2
    · rw [(h3 y (by omega) hy).1]; exact Dle x (by omega)
  · have l1 := Dle j hj
    by_cases z : i + 1 < m
    · rw [(h2 (i + 1) z).2]
      have := (hd i (i + 1) (by omega) z).2
      omega
    · rw [(h3 (i + 1) (by omega) hi).1]; omega
  · by_cases z : j < i
    · rw [(h2 j (by omega)).1] at hTf
      exact h7 f (hT _ _ hTf) (hf j z f hTf)
    · obtain rfl : j = i := by omega
      rw [(h2 j him).1] at hTf
      exact hH f hTf
  · have l1 := Dle (i + 1) hi
    rcases Nat.lt_or_ge d (D i) with z | z
    · obtain ⟨j, j1, j2⟩ := hg v d hv z
      exact ⟨j, by omega, by rw [(h2 j (by omega)).1]; exact j2⟩
    · obtain ⟨j, j1, j2⟩ := hc v (rd_in ha hT d v hv.1) (old v d hv (by omega))
      have ed : D j = d := rdx_u (by rw [← j2] at hv; exact (hb j j1).2.2.2) (by rw [j2]; exact hv)
      by_cases w : j < i + 1
      · exact ⟨j, w, by rw [(h2 j j1).1]; exact j2⟩
      · exfalso
        have e1 := (h2 (i + 1) (by omega)).2
        by_cases y : i + 1 = j
        · rw [← y] at ed; omega
        · have := (hd (i + 1) j (by omega) j1).2
          omega
/-- when it is told, it is right -/
theorem ro_told {N : Nat} {T : Nat → Nat → Prop} {a i b : Nat} (ha : a < N) (hT : ∀ f e, T f e → e < N) (hb : b < N) {far qu : Nat → Int32} {q : Int32} (h : ro_I N T a i far qu q) (hx : far b ≠ -1 ∨ q = puI (i : Int)) (hi : i < 100000) (hq : ∀ m : Nat, q = puI (m : Int) → m ≤ N → N ≤ 324 → True) (hN : N ≤ 324) : rd_ds N T a b (far b) := by
  obtain ⟨m, g, D, rfl, h1, h2, h3, h4, h5, h6, h7, h8, h9⟩ := h
  have mN : m ≤ N := ro_le (g := g) (fun j hj => (h4 j hj).2.1) (fun x y hxy hy => (h6 x y hxy hy).1)
  by_cases c : far b = -1
  · right
    refine ⟨?_, c⟩
    have im : i = m := by
      rcases hx with hx | hx
      · exact absurd c hx
      · exact ((puI_eqN (by omega) (by omega)).mp hx).symm
    have all : ∀ k v, rd T a k v → v < N ∧ far v ≠ -1 := by
      intro k
      induction k with
      | zero =>
        intro v hv
        have e : v = a := hv
        rw [e]
        refine ⟨ha, ?_⟩
        obtain ⟨-, -, w, x⟩ := h4 0 (by omega)
        rw [← h3, w]
        exact ro_nz (by have := rdx_lt ha hT x; omega)
      | succ k ih =>
        intro v hv
        rcases hv with hv | ⟨f, hv, hf⟩
        · exact ih v hv
        · obtain ⟨f1, f2⟩ := ih f hv
          obtain ⟨j, j1, j2⟩ := h5 f f1 f2
          exact ⟨hT _ _ hf, h8 j (by omega) v (by rw [j2]; exact hf)⟩
    exact fun k hk => (all k b hk).2 c
  · obtain ⟨j, j1, j2⟩ := h5 b hb c
    obtain ⟨-, -, w, x⟩ := h4 j j1
    rw [j2] at w x
    exact Or.inl ⟨D j, rdx_lt ha hT x, x, w⟩
theorem p_distK {N : Nat} {O : Nat → Nat → Prop} {a b : Nat} {bu far qu : Nat → Int32} {q sz : Int32} (hN : N ≤ 324) (hO : ∀ s e, O s e → s < 24 ∧ e < N) (hb : ∀ e, e < N → puSt (bu e) (fun s => O s e)) (hsz : sz = puI (N : Int)) (ha : a < N) (hbN : b < N) : puOk (fX2_distance bu sz far qu q (puI (a : Int)) (puI (b : Int))) (fun o => rd_ds N (ro_T O) a b o.1) := by
  have hT : ∀ f e, ro_T O f e → e < N := fun f e ⟨s, h⟩ => by
    rcases h with h | h
    · exact (hO s e h.2.2.1).2
    · exact (hO s e h.2.1).2
  have k1 : puOk (xsWh (fun s3 => fX2_distance_L3 sz s3.1 s3.2) ((0 : Int32), far)) (fun r => ∀ e, e < N → r e = -1) := by
    refine puFor1 N (fun m z => z.1 = puI (m : Int) ∧ ∀ e, e < m → z.2 e = -1) _ ⟨rfl, fun e he => by omega⟩ ?_ ?_
    · rintro m ⟨y1, y2⟩ hm ⟨q1, q2⟩
      simp only at q1 q2
      subst q1
      simp only [fX2_distance_L3]
      rw [pu_goz hsz hm (by omega), xsCk_in (by omega) (by omega) (by omega), xsLt_eq, xsLt_eq, puI_s1, puI_clN (by omega)]
      refine ⟨_, rfl, rfl, fun e he => ?_⟩
      dsimp only
      by_cases z : e = m
      · subst z; rw [puUpd_eq]
      · rw [puUpd_ne z]; exact q2 e (by omega)
    · rintro ⟨y1, y2⟩ ⟨q1, q2⟩
      simp only at q1 q2
      subst q1
      simp only [fX2_distance_L3]
      rw [hsz, pu_out (by omega)]
      exact ⟨_, rfl, q2⟩
  obtain ⟨f0, ef0, hf0⟩ := k1
  have er : fX2_reach f0 qu (0 : Int32) (puI (a : Int)) (0 : Int32) = some (upd f0 a (puI ((0 : Nat) : Int)), upd qu 0 (puI (a : Int)), puI ((1 : Nat) : Int)) := by
    unfold fX2_reach
    rw [xsCk_in (by omega) (by omega) (by omega), puI_clN (by omega), xsBr_pos (hf0 a ha), show (0 : Int32) = puI ((0 : Nat) : Int) by rfl, xsBr_neg (by rw [show (324 : Int32) = puI ((324 : Nat) : Int) by rfl, puI_leN (by omega) (by omega)]; omega), xsLt_eq, xsCk_in (by omega) (by omega) (by omega), xsLt_eq, puI_s1, xsLt_eq, puI_clN (by omega), xsCk_in (by omega) (by omega) (by omega)]
  have i0 : ro_I N (ro_T O) a 0 (upd f0 a (puI ((0 : Nat) : Int))) (upd qu 0 (puI (a : Int))) (puI ((1 : Nat) : Int)) := by
    refine ⟨1, fun _ => a, fun _ => 0, rfl, by omega, by omega, rfl, fun j hj => ?_, fun e he hz => ⟨0, by omega, ?_⟩, fun x y hxy hy => by omega, fun _ j hj => Nat.zero_le _, fun j hj => by omega, fun _ v d _ hd => absurd hd (Nat.not_lt_zero _)⟩
    · obtain rfl : j = 0 := by omega
      exact ⟨puUpd_eq _ _ _, ha, puUpd_eq _ _ _, rfl, fun j hj => absurd hj (Nat.not_lt_zero _)⟩
    · apply Classical.byContradiction
      intro z
      rw [puUpd_ne (Ne.symm z)] at hz
      exact hz (hf0 e he)
  have k2 : puOk (xsWh (fun s11 => fX2_distance_L40 bu sz (puI (b : Int)) s11.1 s11.2.1 s11.2.2.1 s11.2.2.2) ((0 : Int32), upd f0 a (puI ((0 : Nat) : Int)), upd qu 0 (puI (a : Int)), puI ((1 : Nat) : Int))) (fun r => rd_ds N (ro_T O) a b (r.1 b)) := by
    refine puFor N (fun i z => z.1 = puI (i : Int) ∧ ro_I N (ro_T O) a i z.2.1 z.2.2.1 z.2.2.2) _ ?_ ?_ 0 _ (Nat.zero_le _) ⟨rfl, i0⟩
    · rintro i ⟨y7, far, qu, q⟩ hi ⟨q1, h⟩
      simp only at q1 h
      subst q1
      have h' := h
      obtain ⟨m, g, D, rfl, h1, h2, h3, h4, h5, h6, h7, h8, h9⟩ := h'
      have mN : m ≤ N := ro_le (g := g) (fun j hj => (h4 j hj).2.1) (fun x y hxy hy => (h6 x y hxy hy).1)
      simp only [fX2_distance_L40]
      by_cases c : m ≤ i
      · obtain rfl : m = i := by omega
        rw [xsBr_pos ((puI_leN (by omega) (by omega)).mpr c)]
        exact Or.inr ⟨_, rfl, ro_told ha hT hbN h (Or.inr rfl) (by omega) (fun _ _ _ _ => trivial) hN⟩
      rw [xsBr_neg (fun z => c ((puI_leN (by omega) (by omega)).mp z)), xsCk_in (by omega) (by omega) (by omega), puI_clN (by omega)]
      by_cases d : far b = -1
      case neg =>
        rw [xsBr_neg d]
        exact Or.inr ⟨_, rfl, ro_told ha hT hbN h (Or.inl d) (by omega) (fun _ _ _ _ => trivial) hN⟩
      have Db : ∀ j, j < m → D j < N := fun j hj => rdx_lt ha hT (h4 j hj).2.2.2
      have R0 : ro_R N (ro_T O) (g i) (D i) m g D far far qu (puI (m : Int)) := ⟨m, g, D, rfl, Nat.le_refl _, fun j hj => ⟨rfl, rfl⟩, fun j hj hj2 => by omega, fun j hj => ⟨(h4 j hj).1, (h4 j hj).2.1, (h4 j hj).2.2.1, by have := Db j hj; omega⟩, h5, fun x y hxy hy => (h6 x y hxy hy).1, fun e _ z => z⟩
      obtain ⟨r, er, r1, r2⟩ := p_around hN (show D i < 900 by have := Db i (by omega); omega) hO hb (h4 i (by omega)).2.1 R0 (show i < m by omega) rfl rfl hsz
      rw [xsBr_pos d, xsCk_in (by omega) (by omega) (by omega), puI_clN (by omega), (h4 i (by omega)).1, xsBd_some er, xsLt_eq, puI_s1]
      exact Or.inl ⟨_, rfl, rfl, ro_next hN ha hT (show i < m by omega) h3 h4 h5 h6 (h7 (by omega)) h8 (h9 (by omega)) r1 r2⟩
    · rintro ⟨y7, far, qu, q⟩ ⟨q1, h⟩
      simp only at q1 h
      subst q1
      have h' := h
      obtain ⟨m, g, D, rfl, h1, h2, h3, h4, h5, h6, h7, h8, h9⟩ := h'
      have mN : m ≤ N := ro_le (g := g) (fun j hj => (h4 j hj).2.1) (fun x y hxy hy => (h6 x y hxy hy).1)
      simp only [fX2_distance_L40]
      obtain rfl : m = N := by omega
      rw [pu_out (by omega)]
      exact ⟨_, rfl, ro_told ha hT hbN h (Or.inr rfl) (by omega) (fun _ _ _ _ => trivial) hN⟩
  obtain ⟨r, er2, hr⟩ := k2
  unfold fX2_distance
  rw [xsBd_some ef0]
  unfold fX2_distance_J26
  rw [er, xsBd_sm, xsBd_some er2]
  unfold fX2_distance_J77
  rw [xsCk_in (by omega) (by omega) (by omega), puI_clN (by omega)]
  exact puOk_some hr
/-- the reference's levels -/
def ro_M (N : Nat) (T : Nat → Nat → Prop) (a m : Nat) (far : Nat → Int32) : Prop := ∀ e, e < N → (∃ j : Nat, j ≤ m ∧ rdx T a j e ∧ far e = puI (j : Int)) ∨ ((∀ j, j ≤ m → ¬ rd T a j e) ∧ far e = -1)
def ro_N (N : Nat) (T : Nat → Nat → Prop) (L : List (Nat × Nat)) (a m i : Nat) (more : Int32) (far : Nat → Int32) : Prop := ((more = 0) ∨ (more = 1 ∧ ∃ e, e < N ∧ rdx T a (m + 1) e)) ∧ ∀ e, e < N → (∃ j : Nat, j ≤ m ∧ rdx T a j e ∧ far e = puI (j : Int)) ∨ ((∀ j, j ≤ m → ¬ rd T a j e) ∧ ((far e = puI ((m + 1 : Nat) : Int) ∧ rdx T a (m + 1) e ∧ more = 1) ∨ (far e = -1 ∧ ∀ (i' : Nat) (p q : Nat), i' < i → L[i']? = some (p, q) → ¬ (p = e ∧ rdx T a m q) ∧ ¬ (q = e ∧ rdx T a m p))))
theorem ro_lev {N : Nat} {T : Nat → Nat → Prop} {L : List (Nat × Nat)} {a m i : Nat} {more : Int32} {far : Nat → Int32} (hm : m < 1000) (h : ro_N N T L a m i more far) {e : Nat} (he : e < N) : (far e = puI (m : Int) ↔ rdx T a m e) ∧ (far e = -1 → ∀ j, j ≤ m → ¬ rd T a j e) := by
  rcases h.2 e he with ⟨j, j1, j2, j3⟩ | ⟨n1, n2⟩
  · rw [j3]
    refine ⟨?_, fun z => absurd z (ro_nz (by omega))⟩
    rw [puI_eqN (by omega) (by omega)]
    exact ⟨fun z => by rw [← z]; exact j2, fun z => rdx_u j2 z⟩
  · refine ⟨⟨fun z => ?_, fun z => absurd z.1 (n1 m (Nat.le_refl _))⟩, fun _ => n1⟩
    rcases n2 with ⟨k1, -⟩ | ⟨k1, -⟩
    · rw [k1, puI_eqN (by omega) (by omega)] at z; omega
    · rw [k1] at z; exact absurd z.symm (ro_nz (by omega))
theorem p_mroad64 {N n : Nat} {O : Nat → Nat → Prop} {a m : Nat} {o3 : _} (hN : N ≤ 324) (hmN : m < N) (hgb : puGb O) (hO : ∀ s e, O s e → s < n ∧ e < N) (hL : (puES O N n).length ≤ 8000) (hft : puFT (puES O N n) o3.2.2.2.2.2.2.2.2.2.2.2.2.2.2.2.2.2.1 o3.2.2.2.2.2.2.2.2.2.2.2.2.2.2.2.2.2.2.1) (hne : o3.2.2.2.2.2.2.2.2.2.2.2.2.2.2.2.2.2.2.2.2 = puI ((puES O N n).length : Int)) {far : Nat → Int32} (h : ro_M N (ro_T O) a m far) : puOk (xsWh (fun s18 => fX11_road_L64 o3 (puI (m : Int)) s18.1 s18.2.1 s18.2.2) ((0 : Int32), (0 : Int32), far)) (fun r => ro_M N (ro_T O) a (m + 1) r.2 ∧ ((r.1 = 1 ∧ ∃ e, e < N ∧ rdx (ro_T O) a (m + 1) e) ∨ (r.1 = 0 ∧ ∀ e, e < N → ¬ rdx (ro_T O) a (m + 1) e))) := by
  have mem := (puES_mem (O := O) hgb (N := N) n).1
  refine puFor1 (puES O N n).length (fun i z => z.2.1 = puI (i : Int) ∧ ro_N N (ro_T O) (puES O N n) a m i z.1 z.2.2) _ ⟨rfl, Or.inl rfl, fun e he => ?_⟩ ?_ ?_
  · rcases h e he with h | ⟨h1, h2⟩
    · exact Or.inl h
    · exact Or.inr ⟨h1, Or.inr ⟨h2, fun i' p q hi => by omega⟩⟩
  · rintro i ⟨more, y16, far⟩ hi ⟨q1, h⟩
    simp only at q1 h
    subst q1
    obtain ⟨⟨p, q⟩, epq⟩ : ∃ pq, (puES O N n)[i]? = some pq := ⟨_, List.getElem?_eq_getElem hi⟩
    have hmem : (p, q) ∈ puES O N n := List.mem_of_getElem? epq
    obtain ⟨qN, s, hs, cs⟩ := (mem p q).mp hmem
    have pq : p < q := cs.1
    obtain ⟨fp, fq⟩ := hft i (p, q) epq
    simp only at fp fq
    have lp := ro_lev (by omega) h (show p < N by omega)
    have lq := ro_lev (by omega) h qN
    have tpq : ro_T O p q := ⟨s, Or.inl cs⟩
    have tqp : ro_T O q p := ⟨s, Or.inr cs⟩
    -- one more found
    have put : ∀ e f : Nat, e < N → far e = -1 → rdx (ro_T O) a m f → ro_T O f e → (e = p ∧ f = q ∨ e = q ∧ f = p) → ro_N N (ro_T O) (puES O N n) a m (i + 1) 1 (upd far e (puI ((m + 1 : Nat) : Int))) := by
      intro e f he hz hx ht hef
      have n1 := (ro_lev (by omega) h he).2 hz
      have x1 : rdx (ro_T O) a (m + 1) e := ⟨Or.inr ⟨f, hx.1, ht⟩, fun j hj => n1 j (by omega)⟩
      refine ⟨Or.inr ⟨rfl, e, he, x1⟩, fun v hv => ?_⟩
      by_cases z : v = e
      · subst z
        exact Or.inr ⟨n1, Or.inl ⟨puUpd_eq _ _ _, x1, rfl⟩⟩
      · rw [puUpd_ne z]
        rcases h.2 v hv with w | ⟨w1, w2⟩
        · exact Or.inl w
        · refine Or.inr ⟨w1, ?_⟩
          rcases w2 with ⟨k1, k2, -⟩ | ⟨k1, k2⟩
          · exact Or.inl ⟨k1, k2, rfl⟩
          · refine Or.inr ⟨k1, fun i' p' q' hi' el => ?_⟩
            by_cases y : i' = i
            · subst y
              rw [epq] at el
              obtain ⟨rfl, rfl⟩ := Prod.mk.inj (Option.some.inj el)
              rcases hef with ⟨rfl, rfl⟩ | ⟨rfl, rfl⟩
              · exact ⟨fun y => z y.1.symm, fun y => n1 m (Nat.le_refl _) y.2.1⟩
              · exact ⟨fun y => n1 m (Nat.le_refl _) y.2.1, fun y => z y.1.symm⟩
            · exact k2 i' p' q' (by omega) el
    -- none more
    have not : ¬ (rdx (ro_T O) a m p ∧ far q = -1) → ¬ (rdx (ro_T O) a m q ∧ far p = -1) → ro_N N (ro_T O) (puES O N n) a m (i + 1) more far := by
      intro c1 c2
      refine ⟨h.1, fun v hv => ?_⟩
      rcases h.2 v hv with w | ⟨w1, w2⟩
      · exact Or.inl w
      · refine Or.inr ⟨w1, ?_⟩
        rcases w2 with w2 | ⟨k1, k2⟩
        · exact Or.inl w2
        · refine Or.inr ⟨k1, fun i' p' q' hi' el => ?_⟩
          by_cases y : i' = i
          · subst y
            rw [epq] at el
            obtain ⟨rfl, rfl⟩ := Prod.mk.inj (Option.some.inj el)
            exact ⟨fun y => c2 ⟨y.2, by rw [y.1]; exact k1⟩, fun y => c1 ⟨y.2, by rw [y.1]; exact k1⟩⟩
          · exact k2 i' p' q' (by omega) el
    have fin : ∀ more' far', ro_N N (ro_T O) (puES O N n) a m (i + 1) more' far' → ∃ s', fX11_road_J167 (puI (i : Int)) more' far' = some (.inl s') ∧ s'.2.1 = puI ((i + 1 : Nat) : Int) ∧ ro_N N (ro_T O) (puES O N n) a m (i + 1) s'.1 s'.2.2 := by
      intro more' far' hh
      simp only [fX11_road_J167]
      rw [xsLt_eq, puI_s1]
      exact ⟨_, rfl, rfl, hh⟩
    have m1 : puI (m : Int) + (1 : Int32) = puI ((m + 1 : Nat) : Int) := puI_s1 m
    simp only [fX11_road_L64]
    rw [pu_goz hne hi (by omega)]
    simp (disch := omega) only [xsCk_in]
    rw [xsLt_eq, xsLt_eq, puI_clN (by omega), fp, fq]
    unfold fX11_road_J114 fX11_road_J137 fX11_road_J160
    simp (disch := omega) only [xsCk_in, puI_clN]
    rw [m1]
    by_cases c1 : far p = puI (m : Int)
    · have xp := lp.1.mp c1
      rw [xsBr_pos c1]
      by_cases c2 : far q = -1
      · rw [xsBr_pos c2, xsBr_pos c1, xsBd_sm]
        simp (disch := omega) only [xsCk_in, puI_clN]
        rw [xsLt_eq, xsBd_sm]
        exact fin _ _ (put q p qN c2 xp tpq (Or.inr ⟨rfl, rfl⟩))
      · rw [xsBr_neg c2]
        have np : ¬ far p = -1 := fun z => ro_nz (by omega) (c1.symm.trans z)
        have nn := not (fun z => c2 z.2) (fun z => np z.2)
        by_cases c3 : far q = puI (m : Int)
        · rw [xsBr_pos c3, xsBr_neg np, xsBd_sm]; exact fin _ _ nn
        · rw [xsBr_neg c3, xsBd_sm]; exact fin _ _ nn
    · have xp : ¬ rdx (ro_T O) a m p := fun z => c1 (lp.1.mpr z)
      rw [xsBr_neg c1]
      by_cases c3 : far q = puI (m : Int)
      · have xq := lq.1.mp c3
        rw [xsBr_pos c3]
        by_cases c2 : far p = -1
        · rw [xsBr_pos c2, xsBr_neg c1, xsBd_sm]
          simp (disch := omega) only [xsCk_in, puI_clN]
          rw [xsLt_eq, xsBd_sm]
          exact fin _ _ (put p q (by omega) c2 xq tqp (Or.inl ⟨rfl, rfl⟩))
        · rw [xsBr_neg c2, xsBd_sm]
          exact fin _ _ (not (fun z => xp z.1) (fun z => c2 z.2))
      · have xq : ¬ rdx (ro_T O) a m q := fun z => c3 (lq.1.mpr z)
        rw [xsBr_neg c3, xsBd_sm]
        exact fin _ _ (not (fun z => xp z.1) (fun z => xq z.1))
  · rintro ⟨more, y16, far⟩ ⟨q1, h⟩
    simp only at q1 h
    subst q1
    simp only [fX11_road_L64]
    rw [hne, pu_out (by omega)]
    have far1 : ∀ e, e < N → far e = -1 → ∀ j, j ≤ m + 1 → ¬ rd (ro_T O) a j e := by
      intro e he hz j hj hrd
      rcases h.2 e he with ⟨j', j1, -, j3⟩ | ⟨n1, n2⟩
      · rw [j3] at hz; exact ro_nz (by omega) hz
      · rcases n2 with ⟨k1, -⟩ | ⟨k1, k2⟩
        · rw [k1] at hz; exact ro_nz (by omega) hz
        · obtain ⟨d, d1, d2⟩ := rdx_of j hrd
          have dm : d = m + 1 := by
            rcases Nat.lt_or_ge m d with y | y
            · omega
            · exact absurd d2.1 (n1 d y)
          subst dm
          obtain ⟨f, f1, f2⟩ := rdx_pre d2
          obtain ⟨s, cs | cs⟩ := f2
          · have := (mem f e).mpr ⟨he, s, (hO s e cs.2.2.1).1, cs⟩
            obtain ⟨i', el⟩ := List.getElem?_of_mem this
            have il := (List.getElem?_eq_some_iff.mp el).1
            exact (k2 i' f e il el).2 ⟨rfl, f1⟩
          · have := (mem e f).mpr ⟨(hO s f cs.2.2.1).2, s, (hO s f cs.2.2.1).1, cs⟩
            obtain ⟨i', el⟩ := List.getElem?_of_mem this
            have il := (List.getElem?_eq_some_iff.mp el).1
            exact (k2 i' e f il el).1 ⟨rfl, f1⟩
    refine ⟨_, rfl, fun e he => ?_, ?_⟩
    · rcases h.2 e he with ⟨j, j1, j2, j3⟩ | ⟨n1, n2⟩
      · exact Or.inl ⟨j, by omega, j2, j3⟩
      · rcases n2 with ⟨k1, k2, -⟩ | ⟨k1, -⟩
        · exact Or.inl ⟨m + 1, Nat.le_refl _, k2, k1⟩
        · exact Or.inr ⟨far1 e he k1, k1⟩
    · rcases h.1 with z | z
      · right
        refine ⟨z, fun e he hx => ?_⟩
        rcases h.2 e he with ⟨j, j1, j2, -⟩ | ⟨n1, n2⟩
        · have := rdx_u j2 hx; omega
        · rcases n2 with ⟨-, -, k3⟩ | ⟨k1, -⟩
          · rw [z] at k3; exact absurd k3 (by decide)
          · exact far1 e he k1 (m + 1) (Nat.le_refl _) hx.1
      · exact Or.inl z
theorem p_mroad55 {N n : Nat} {O : Nat → Nat → Prop} {a b : Nat} {o3 : _} (hN : N ≤ 324) (ha : a < N) (hb : b < N) (hgb : puGb O) (hO : ∀ s e, O s e → s < n ∧ e < N) (hL : (puES O N n).length ≤ 8000) (hft : puFT (puES O N n) o3.2.2.2.2.2.2.2.2.2.2.2.2.2.2.2.2.2.1 o3.2.2.2.2.2.2.2.2.2.2.2.2.2.2.2.2.2.2.1) (hne : o3.2.2.2.2.2.2.2.2.2.2.2.2.2.2.2.2.2.2.2.2 = puI ((puES O N n).length : Int)) {far : Nat → Int32} (h : ro_M N (ro_T O) a 0 far) : puOk (xsWh (fun s12 => fX11_road_L55 o3 s12.1 s12.2.1 s12.2.2) ((1 : Int32), (0 : Int32), far)) (fun r => rd_ds N (ro_T O) a b (r b)) := by
  have hT : ∀ f e, ro_T O f e → e < N := fun f e ⟨s, h⟩ => by
    rcases h with h | h
    · exact (hO s e h.2.2.1).2
    · exact (hO s e h.2.1).2
  have told : ∀ m far, m ≤ N → ro_M N (ro_T O) a m far → (∀ e, e < N → ¬ rdx (ro_T O) a m e) → rd_ds N (ro_T O) a b (far b) := by
    intro m far hm h1 h2
    rcases h1 b hb with ⟨j, j1, j2, j3⟩ | ⟨n1, n2⟩
    · exact Or.inl ⟨j, rdx_lt ha hT j2, j2, j3⟩
    · refine Or.inr ⟨fun k hk => ?_, n2⟩
      obtain ⟨d, d1, d2⟩ := rdx_of k hk
      rcases Nat.lt_or_ge m d with y | y
      · obtain ⟨f, hf⟩ := rdx_chain d b d2 m (by omega)
        exact h2 f (rd_in ha hT m f hf.1) hf
      · exact n1 d y d2.1
  refine puFor N (fun m z => z.2.1 = puI (m : Int) ∧ ro_M N (ro_T O) a m z.2.2 ∧ ((z.1 = 1 ∧ ∃ e, e < N ∧ rdx (ro_T O) a m e) ∨ (z.1 = 0 ∧ ∀ e, e < N → ¬ rdx (ro_T O) a m e))) _ ?_ ?_ 0 _ (Nat.zero_le _) ⟨rfl, h, Or.inl ⟨rfl, a, ha, rfl, fun j hj => by omega⟩⟩
  · rintro m ⟨y9, y10, far⟩ hm ⟨q1, q2, q3⟩
    simp only at q1 q2 q3
    subst q1
    simp only [fX11_road_L55]
    rcases q3 with ⟨z, -⟩ | ⟨z, q3⟩
    · subst z
      obtain ⟨r, er, r1, r2⟩ := p_mroad64 (o3 := o3) hN hm hgb hO hL hft hne q2
      rw [xsBr_neg (by decide), xsBd_some er]
      simp only [fX11_road_J173]
      rw [xsLt_eq, puI_s1]
      exact Or.inl ⟨_, rfl, rfl, r1, r2⟩
    · subst z
      rw [xsBr_pos rfl]
      exact Or.inr ⟨_, rfl, told m far (by omega) q2 q3⟩
  · rintro ⟨y9, y10, far⟩ ⟨q1, q2, q3⟩
    simp only at q1 q2 q3
    subst q1
    simp only [fX11_road_L55]
    rcases q3 with ⟨-, e, -, hx⟩ | ⟨z, q3⟩
    · have := rdx_lt ha hT hx; omega
    · subst z
      rw [xsBr_pos rfl]
      exact ⟨_, rfl, told N far (Nat.le_refl _) q2 q3⟩
theorem p_mroad20 {N : Nat} {T : Nat → Nat → Prop} {a : Nat} {o3 : _} (hN : N ≤ 324) (ha : a < N) (hsz : o3.2.2.2.2.2.2.2.2.2.2.2.2.1 = puI (N : Int)) {far : Nat → Int32} : puOk (xsWh (fun s7 => fX11_road_L20 (puI (a : Int)) o3 s7.1 s7.2) ((0 : Int32), far)) (fun r => ro_M N T a 0 r) := by
  refine puFor1 N (fun m z => z.1 = puI (m : Int) ∧ ∀ e, e < m → (∃ j : Nat, j ≤ 0 ∧ rdx T a j e ∧ z.2 e = puI (j : Int)) ∨ ((∀ j, j ≤ 0 → ¬ rd T a j e) ∧ z.2 e = -1)) _ ⟨rfl, fun e he => by omega⟩ ?_ ?_
  · rintro m ⟨y5, y6⟩ hm ⟨q1, q2⟩
    simp only at q1 q2
    subst q1
    simp only [fX11_road_L20]
    rw [pu_goz hsz hm (by omega), xsBr_iff (puI_eqN (by omega) (by omega))]
    by_cases c : m = a
    · rw [xsBr_pos c, xsBd_sm]
      simp only [fX11_road_J43]
      rw [xsCk_in (by omega) (by omega) (by omega), xsLt_eq, xsLt_eq, puI_s1, puI_clN (by omega)]
      refine ⟨_, rfl, rfl, fun e he => ?_⟩
      dsimp only
      by_cases z : e = m
      · subst z; rw [puUpd_eq]
        exact Or.inl ⟨0, Nat.le_refl _, ⟨c, fun j hj => by omega⟩, rfl⟩
      · rw [puUpd_ne z]; exact q2 e (by omega)
    · rw [xsBr_neg c, xsBd_sm]
      simp only [fX11_road_J43]
      rw [xsCk_in (by omega) (by omega) (by omega), xsLt_eq, xsLt_eq, puI_s1, puI_clN (by omega)]
      refine ⟨_, rfl, rfl, fun e he => ?_⟩
      dsimp only
      by_cases z : e = m
      · subst z; rw [puUpd_eq]
        refine Or.inr ⟨fun j hj h => ?_, rfl⟩
        obtain rfl : j = 0 := by omega
        exact c h
      · rw [puUpd_ne z]; exact q2 e (by omega)
  · rintro ⟨y5, y6⟩ ⟨q1, q2⟩
    simp only at q1 q2
    subst q1
    simp only [fX11_road_L20]
    rw [hsz, pu_out (by omega)]
    exact ⟨_, rfl, q2⟩
theorem q_road : pc_road puRl := by
  intro kIsKept kIsStale hiLatest hiSize scLength scFault scAt scNumber piSegmentsNow enKind enFromX enFromY enToX enToY tiMeetingPairs tiAlongPairs tiSize evSize evCrossings evSegmentsNow grEdges grQueued huSize huBestX huBestY scBytes scTold tiTouching tiLyingAlong evBundle evCrossingOf evEventOf evLeftEvent evRightEvent grDegree grFar grQueue huX huY enX enY enLower evX evY evLower S mThrown mRemembered mHasImage mIsLaid mEvents mCrossings mEdges mTaped mPoint mEnd mBegin mFaultAt mActs mWorld mImage mDraft mEarlier mOne mTwo mShare mCrossingOf mBundle mEventOf mDegree mFrom mTo mMet mTape mFive mTold mFar mViews mHullX mHullY mEndX mEndY mMeets mMeetsOf mX mY mD mHeightUp mHeightLow mEventX mEventY mEventD mUpper mLower hR a0 a1
  obtain ⟨n, G, rw, ri, rh, rt, rk, rm⟩ := hR
  obtain ⟨i, rfl, i1, i2⟩ := puI_ex a0
  obtain ⟨k, rfl, k1, k2⟩ := puI_ex a1
  obtain ⟨w1, w2, w3⟩ := id rw
  have hn := w1.1
  obtain ⟨o, eo, o0, ho⟩ := p_drawn w1 w2.1 rk (k0 := enKind) (x0 := enX) (y0 := enY) (l0 := enLower) (f0 := enFromX) (f1 := enFromY) (f2 := enToX) (f3 := enToY)
  obtain ⟨v, hv, ev⟩ := p_noEvent w1 w3 rm (th := mThrown) (one := mOne) (two := mTwo) (sh := mShare) (x0 := mX) (y0 := mY) (d0 := mD) i1 i2
  unfold fX10_road fX11_road
  rw [w2.2.2, xsBd_some eo, ev, xsBd_sm]
  obtain ⟨⟨okp, gN⟩, ⟨-, gtn, gsn⟩, ⟨-, gal⟩, -, ⟨gev, gsz⟩, gbu, ⟨gcr, -, -⟩, gen, ggr⟩ := id ho
  have pcn := p_checkPlace (k := i) (m := (puCan n G).1) i1 i2 (by omega)
  rw [← gsz] at pcn
  have pcn2 := p_checkPlace (k := k) (m := (puCan n G).1) k1 k2 (by omega)
  rw [← gsz] at pcn2
  rw [pcn]
  simp only [xsBd_sm]
  by_cases c1 : 0 ≤ i ∧ i < ((puCan n G).1 : Int)
  case neg =>
    rw [puCk_neg c1, puB_pos c1, puE_pos c1]
    simp only [xsTh]
    rw [xsBr_neg (by decide)]
    exact ⟨_, _, rfl, rfl, Or.inr ⟨_, _, rfl, rfl, rfl, n, G, rw, ri, rh, rt, Or.inr ⟨o0, ho⟩, Or.inr hv⟩⟩
  rw [puCk_pos c1, puB_neg (fun q => q c1), puE_neg (fun q => q c1)]
  simp only [xsTh]
  obtain ⟨v', hv', ev'⟩ := p_noEvent w1 w3 (Or.inr hv) (th := 0) (one := v.2.1) (two := v.2.2.1) (sh := v.2.2.2.1) (x0 := v.2.2.2.2.1) (y0 := v.2.2.2.2.2.1) (d0 := v.2.2.2.2.2.2.1) k1 k2
  rw [pcn2, xsBr_T, ev']
  simp only [xsBd_sm]
  by_cases c2 : 0 ≤ k ∧ k < ((puCan n G).1 : Int)
  case neg =>
    rw [puCk_neg c2, puB_pos c2, puE_pos c2]
    simp only [xsTh]
    rw [xsBr_neg (by decide)]
    exact ⟨_, _, rfl, rfl, Or.inr ⟨_, _, rfl, rfl, rfl, n, G, rw, ri, rh, rt, Or.inr ⟨o0, ho⟩, Or.inr hv'⟩⟩
  rw [puCk_pos c2, puB_neg (fun q => q c2), puE_neg (fun q => q c2)]
  simp only [xsTh]
  obtain ⟨v1, -, ⟨vev, vsz⟩, vbu, -, vgr, vft⟩ := id hv'
  obtain ⟨a, rfl, ha⟩ : ∃ e : Nat, i = (e : Int) ∧ e < (puCan n G).1 := ⟨i.toNat, by omega, by omega⟩
  obtain ⟨b, rfl, hb⟩ : ∃ e : Nat, k = (e : Int) ∧ e < (puCan n G).1 := ⟨k.toNat, by omega, by omega⟩
  have hO : ∀ s e, puOo n G s e → s < n ∧ e < (puCan n G).1 := fun s e q => ⟨q.2.1, q.1⟩
  have Ll : (puES (puOo n G) (puCan n G).1 n).length ≤ 8000 := by
    have a1 := puES_len (O := puOo n G) (N := (puCan n G).1) n
    have a2 : n * (puCan n G).1 ≤ 24 * 324 := Nat.mul_le_mul hn gN
    omega
  obtain ⟨r, er, hr⟩ := p_distK (O := puOo n G) (far := grFar) (qu := grQueue) (q := grQueued) gN (fun s e q => ⟨by have := (hO s e q).1; omega, q.1⟩) (fun e he => puSt_c (gbu e he) (fun i _ => ⟨fun q => ⟨he, q⟩, fun q => q.2⟩)) gsz ha hb
  obtain ⟨m0, em0, hm0⟩ := p_mroad20 (T := ro_T (puOo n G)) (o3 := ((0 : Int32), (0 : Int32), v')) gN ha vsz (far := mFar)
  obtain ⟨m1, em1, hm1⟩ := p_mroad55 (o3 := ((0 : Int32), (0 : Int32), v')) gN ha hb (puGb_O okp) hO Ll vft vgr.2 hm0
  rw [xsBr_T, xsBd_some er, xsBd_some em0]
  unfold fX11_road_J50
  rw [xsBd_some em1]
  unfold fX11_road_J179
  rw [xsCk_in (by omega) (by omega) (by omega), puI_clN (by omega)]
  exact ⟨_, _, rfl, rfl, Or.inl ⟨_, rfl, rd_ds_u hr hm1, rfl, n, G, rw, ri, rh, rt, Or.inr ⟨o0, ho⟩, Or.inr hv'⟩⟩

