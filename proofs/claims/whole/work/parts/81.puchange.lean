/-! PURE: a SEGMENT put, taken out, moved, all turned: both worlds alike -/
noncomputable def ch_o (x y a b t : Int) : puS := puE (x < a ∨ (x = a ∧ y ≤ b)) (x, y, a, b, t) (a, b, x, y, t)
theorem ch_oV {x y a b t : Int} (hx : puInC x) (hy : puInC y) (ha : puInC a) (hb : puInC b) (ht : 0 ≤ t ∧ t ≤ 3) : puV (ch_o x y a b t) := by
  unfold puInC at *
  unfold ch_o
  by_cases c : x < a ∨ (x = a ∧ y ≤ b)
  · rw [puE_pos c]
    unfold puV puW puH
    simp only
    omega
  · rw [puE_neg c]
    unfold puV puW puH
    simp only
    omega
theorem ch_oT (x y a b t : Int) : (ch_o x y a b t).2.2.2.2 = t := by
  unfold ch_o
  by_cases c : x < a ∨ (x = a ∧ y ≤ b)
  · rw [puE_pos c]
  · rw [puE_neg c]
theorem p_put {lx ly rx ry : Nat → Int32} {s : Nat} (hs : s < 24) {x y a b : Int} (t : Int) (hx : puInC x) (hy : puInC y) (ha : puInC a) (hb : puInC b) : fX7_put lx ly rx ry (puI (s : Int)) (puI x) (puI y) (puI a) (puI b) = some (upd lx s (puI (ch_o x y a b t).1), upd ly s (puI (ch_o x y a b t).2.1), upd rx s (puI (ch_o x y a b t).2.2.1), upd ry s (puI (ch_o x y a b t).2.2.2.1)) := by
  unfold puInC at *
  unfold fX7_put
  have ec : xsBr (puI x < puI a) (some (1 : Int32)) (xsBr (puI x = puI a) (xsBr (puI b < puI y) (some (0 : Int32)) (some (1 : Int32))) (some (0 : Int32))) = some (puB (x < a ∨ (x = a ∧ y ≤ b))) := by
    rw [xsBr_iff (puI_lt (a := x) (b := a) (by omega) (by omega) (by omega) (by omega)), xsBr_iff (puI_eq (a := x) (b := a) (by omega) (by omega) (by omega) (by omega)), xsBr_iff (puI_lt (a := b) (b := y) (by omega) (by omega) (by omega) (by omega))]
    by_cases c : x < a
    · rw [xsBr_pos c, puB_pos (Or.inl c)]
    · rw [xsBr_neg c]
      by_cases d : x = a
      · rw [xsBr_pos d]
        by_cases e : b < y
        · rw [xsBr_pos e, puB_neg (by omega)]
        · rw [xsBr_neg e, puB_pos (by omega)]
      · rw [xsBr_neg d, puB_neg (by omega)]
  rw [ec, xsBd_sm]
  unfold fX7_put_J23 fX7_put_J41 fX7_put_J58 fX7_put_J75 fX7_put_J92 ch_o
  by_cases c : x < a ∨ (x = a ∧ y ≤ b)
  · simp (disch := omega) only [pu_bt c, puE_pos c, xsBd_sm, xsCk_in, xsLt_eq, puI_clN]
  · simp (disch := omega) only [pu_bf c, puE_neg c, xsBd_sm, xsCk_in, xsLt_eq, puI_clN]
theorem p_puts {w : Nat → Int32} {ld : Int32} {s : Nat} (hs : s < 24) {x y a b t : Int} (hx : puInC x) (hy : puInC y) (ha : puInC a) (hb : puInC b) : puOk (fX11_puts w ld (puI (s : Int)) (puI x) (puI y) (puI a) (puI b) (puI t)) (fun o => o.2 = 0 ∧ puM5 o.1 (1 + 5 * s) (ch_o x y a b t) ∧ ∀ j, j < 1 + 5 * s ∨ 1 + 5 * s + 5 ≤ j → o.1 j = w j) := by
  unfold puInC at *
  unfold fX11_puts
  have ec : xsBr (puI x < puI a) (some (1 : Int32)) (xsBr (puI x = puI a) (xsBr (puI b < puI y) (some (0 : Int32)) (some (1 : Int32))) (some (0 : Int32))) = some (puB (x < a ∨ (x = a ∧ y ≤ b))) := by
    rw [xsBr_iff (puI_lt (a := x) (b := a) (by omega) (by omega) (by omega) (by omega)), xsBr_iff (puI_eq (a := x) (b := a) (by omega) (by omega) (by omega) (by omega)), xsBr_iff (puI_lt (a := b) (b := y) (by omega) (by omega) (by omega) (by omega))]
    by_cases c : x < a
    · rw [xsBr_pos c, puB_pos (Or.inl c)]
    · rw [xsBr_neg c]
      by_cases d : x = a
      · rw [xsBr_pos d]
        by_cases e : b < y
        · rw [xsBr_pos e, puB_neg (by omega)]
        · rw [xsBr_neg e, puB_pos (by omega)]
      · rw [xsBr_neg d, puB_neg (by omega)]
  rw [ec, xsBd_sm]
  have eI : (1 : Int32) + (5 : Int32) * puI (s : Int) = puI ((1 + 5 * s : Nat) : Int) := by rw [show (5 : Int32) = puI 5 by rfl, show (1 : Int32) = puI 1 by rfl, puI_mul, puI_add]; congr 1
  have e0 : puI ((1 + 5 * s : Nat) : Int) + (0 : Int32) = puI ((1 + 5 * s : Nat) : Int) := puI_a0 _
  have e1 : puI ((1 + 5 * s : Nat) : Int) + (1 : Int32) = puI ((1 + 5 * s + 1 : Nat) : Int) := puI_s1 _
  have e2 : puI ((1 + 5 * s : Nat) : Int) + (2 : Int32) = puI ((1 + 5 * s + 2 : Nat) : Int) := by rw [show (2 : Int32) = puI 2 by rfl, puI_add]; congr 1
  have e3 : puI ((1 + 5 * s : Nat) : Int) + (3 : Int32) = puI ((1 + 5 * s + 3 : Nat) : Int) := by rw [show (3 : Int32) = puI 3 by rfl, puI_add]; congr 1
  have e4 : puI ((1 + 5 * s : Nat) : Int) + (4 : Int32) = puI ((1 + 5 * s + 4 : Nat) : Int) := by rw [show (4 : Int32) = puI 4 by rfl, puI_add]; congr 1
  have rows : ∀ q : puS, puM5 (upd (upd (upd (upd (upd w (1 + 5 * s) (puI q.1)) (1 + 5 * s + 1) (puI q.2.1)) (1 + 5 * s + 2) (puI q.2.2.1)) (1 + 5 * s + 3) (puI q.2.2.2.1)) (1 + 5 * s + 4) (puI q.2.2.2.2)) (1 + 5 * s) q ∧ ∀ j, j < 1 + 5 * s ∨ 1 + 5 * s + 5 ≤ j → (upd (upd (upd (upd (upd w (1 + 5 * s) (puI q.1)) (1 + 5 * s + 1) (puI q.2.1)) (1 + 5 * s + 2) (puI q.2.2.1)) (1 + 5 * s + 3) (puI q.2.2.2.1)) (1 + 5 * s + 4) (puI q.2.2.2.2)) j = w j := by
    intro q
    refine ⟨⟨?_, ?_, ?_, ?_, ?_⟩, fun j hj => ?_⟩
    · rw [puUpd_ne (by omega), puUpd_ne (by omega), puUpd_ne (by omega), puUpd_ne (by omega), puUpd_eq]
    · rw [puUpd_ne (by omega), puUpd_ne (by omega), puUpd_ne (by omega), puUpd_eq]
    · rw [puUpd_ne (by omega), puUpd_ne (by omega), puUpd_eq]
    · rw [puUpd_ne (by omega), puUpd_eq]
    · rw [puUpd_eq]
    · rw [puUpd_ne (by omega), puUpd_ne (by omega), puUpd_ne (by omega), puUpd_ne (by omega), puUpd_ne (by omega)]
  unfold fX11_puts_J23 fX11_puts_J51 fX11_puts_J71 fX11_puts_J91 fX11_puts_J111 ch_o
  rw [eI, xsLt_eq]
  by_cases c : x < a ∨ (x = a ∧ y ≤ b)
  · simp only [pu_bt c, puE_pos c, xsBd_sm, e0, e1, e2, e3, e4]
    simp (disch := omega) only [xsCk_in, xsLt_eq, puI_clN]
    exact puOk_some ⟨rfl, rows (x, y, a, b, t)⟩
  · simp only [pu_bf c, puE_neg c, xsBd_sm, e0, e1, e2, e3, e4]
    simp (disch := omega) only [xsCk_in, xsLt_eq, puI_clN]
    exact puOk_some ⟨rfl, rows (a, b, x, y, t)⟩
/-- one SEGMENT more -/
noncomputable def ch_add (n : Nat) (G : puG) (q : puS) : puG := fun s => if s = n then q else G s
theorem ch_addV {n : Nat} {G : puG} (hv : puVal n G) (h : n < 24) {q : puS} (vq : puV q) : puVal (n + 1) (ch_add n G q) := by
  refine ⟨by omega, fun s hs => ?_⟩
  unfold ch_add
  by_cases e : s = n
  · rw [if_pos e]; exact vq
  · rw [if_neg e]; exact hv.2 s (by omega)
theorem p_isFull {n : Nat} (hn : n ≤ 24) : fX7_isFull (puI (n : Int)) = some (puB (n = 24)) := by
  unfold fX7_isFull
  rw [show (24 : Int32) = puI ((24 : Nat) : Int) by rfl, xsBr_iff (puI_ltN (by omega) (by omega))]
  by_cases c : n < 24
  · rw [xsBr_pos c, puB_neg (by omega)]
  · rw [xsBr_neg c, puB_pos (by omega)]
theorem p_append {n : Nat} {G : puG} {v : xsV} (hk : puKS n G v) (h : n < 24) {x y a b t : Int} (hx : puInC x) (hy : puInC y) (ha : puInC a) (hb : puInC b) : puOk (fX7_append v.1 v.2.1 v.2.2.1 v.2.2.2.1 v.2.2.2.2.1 v.2.2.2.2.2 (puI x) (puI y) (puI a) (puI b) (puI t)) (fun o => puKS (n + 1) (ch_add n G (ch_o x y a b t)) o) := by
  obtain ⟨h1, h2, h3⟩ := hk
  unfold fX7_append
  rw [h3, p_isFull (by omega), xsBd_sm, pu_bf (by omega), p_put h t hx hy ha hb, xsBd_sm, xsCk_in (by omega) (by omega) (by omega), xsLt_eq, puI_s1, xsLt_eq, puI_clN (by omega)]
  refine puOk_some ⟨fun s hs => ?_, fun s hs => ?_, rfl⟩
  · unfold ch_add
    by_cases e : s = n
    · subst e
      rw [if_pos rfl]
      exact ⟨puUpd_eq _ _ _, puUpd_eq _ _ _, puUpd_eq _ _ _, puUpd_eq _ _ _⟩
    · rw [if_neg e]
      obtain ⟨k1, k2, k3, k4⟩ := h1 s (by omega)
      exact ⟨(puUpd_ne e).trans k1, (puUpd_ne e).trans k2, (puUpd_ne e).trans k3, (puUpd_ne e).trans k4⟩
  · unfold ch_add
    by_cases e : s = n
    · subst e
      rw [if_pos rfl, ch_oT]
      exact puUpd_eq _ _ _
    · rw [if_neg e]
      exact (puUpd_ne e).trans (h2 s (by omega))
theorem p_adds {n : Nat} {G : puG} {w : Nat → Int32} (hw : puMW n G w) (h : n < 24) {ld : Int32} {x y a b t : Int} (hx : puInC x) (hy : puInC y) (ha : puInC a) (hb : puInC b) : puOk (fX11_adds w ld (puI x) (puI y) (puI a) (puI b) (puI t)) (fun o => o.1 = puI (n : Int) ∧ o.2.2 = 0 ∧ puMW (n + 1) (ch_add n G (ch_o x y a b t)) o.2.1) := by
  unfold fX11_adds
  rw [p_many hw, xsBd_sm, show (0 : Int32) = puI ((0 : Nat) : Int) by rfl, xsCk_in (by omega) (by omega) (by omega), xsCk_in (by omega) (by omega) (by omega), xsLt_eq, puI_clN (by omega), hw.1, puI_s1]
  obtain ⟨o, eo, o2, o5, oj⟩ := p_puts (w := upd w 0 (puI ((n + 1 : Nat) : Int))) (ld := ld) (s := n) h (t := t) hx hy ha hb
  rw [xsBd_some eo]
  refine puOk_some ⟨rfl, o2, ?_, fun s hs => ?_⟩
  · dsimp only
    rw [oj 0 (by omega), puUpd_eq]
  · unfold ch_add
    by_cases e : s = n
    · subst e; rw [if_pos rfl]; exact o5
    · rw [if_neg e]
      obtain ⟨k1, k2, k3, k4, k5⟩ := hw.2 s (by omega)
      have g : ∀ j, 0 < j → j < 1 + 5 * n → o.1 j = w j := fun j h1 h2 => by rw [oj j (by omega), puUpd_ne (by omega)]
      exact ⟨(g _ (by omega) (by omega)).trans k1, (g _ (by omega) (by omega)).trans k2, (g _ (by omega) (by omega)).trans k3, (g _ (by omega) (by omega)).trans k4, (g _ (by omega) (by omega)).trans k5⟩
/-- one SEGMENT less -/
def ch_cut (G : puG) (s : Nat) : puG := fun j => if j < s then G j else G (j + 1)
theorem ch_cutV {n : Nat} {G : puG} (hv : puVal n G) {s : Nat} (hs : s < n) : puVal (n - 1) (ch_cut G s) := by
  refine ⟨by have := hv.1; omega, fun j hj => ?_⟩
  unfold ch_cut
  by_cases e : j < s
  · rw [if_pos e]; exact hv.2 j (by omega)
  · rw [if_neg e]; exact hv.2 (j + 1) (by omega)
theorem puI_p1 {k : Nat} (h : 0 < k) : puI (k : Int) - (1 : Int32) = puI ((k - 1 : Nat) : Int) := by rw [show (1 : Int32) = puI 1 by rfl, puI_sub]; congr 1; omega
theorem p_drop {n : Nat} {G : puG} {v : xsV} (hk : puKS n G v) (hn : n ≤ 24) {s : Nat} (hs : s < n) : puOk (fX7_drop v.1 v.2.1 v.2.2.1 v.2.2.2.1 v.2.2.2.2.1 v.2.2.2.2.2 (puI (s : Int))) (fun o => puKS (n - 1) (ch_cut G s) o) := by
  obtain ⟨h1, h2, h3⟩ := hk
  have key : puOk (xsWh (fun s7 => fX7_drop_L2 (puI (n : Int)) s7.1 s7.2.1 s7.2.2.1 s7.2.2.2.1 s7.2.2.2.2.1 s7.2.2.2.2.2) (puI (s : Int), v.1, v.2.1, v.2.2.1, v.2.2.2.1, v.2.2.2.2.1)) (fun r => (∀ j, j < n - 1 → puQ r.1 r.2.1 r.2.2.1 r.2.2.2.1 j (ch_cut G s j)) ∧ ∀ j, j < n - 1 → r.2.2.2.2 j = puI (ch_cut G s j).2.2.2.2) := by
    refine puFor (n - 1) (fun k z => s ≤ k ∧ z.1 = puI (k : Int) ∧ ∀ j, j < n → puQ z.2.1 z.2.2.1 z.2.2.2.1 z.2.2.2.2.1 j (if j < k then ch_cut G s j else G j) ∧ z.2.2.2.2.2 j = puI (if j < k then ch_cut G s j else G j).2.2.2.2) _ ?_ ?_ s _ (by omega) ⟨Nat.le_refl _, rfl, fun j hj => ?_⟩
    · rintro k ⟨i, a, b, c, d, e⟩ hkn ⟨q0, q1, q2⟩
      simp only at q0 q1 q2
      subst q1
      simp only [fX7_drop_L2]
      rw [puI_s1, pu_go (show k + 1 < n by omega) (by omega)]
      unfold fX7_copyOne
      simp (disch := omega) only [xsCk_in, xsLt_eq, puI_clN, xsBd_sm]
      have ec : ch_cut G s k = G (k + 1) := if_neg (by omega)
      obtain ⟨⟨p1, p2, p3, p4⟩, p5⟩ := q2 (k + 1) (by omega)
      rw [if_neg (show ¬ k + 1 < k by omega)] at p1 p2 p3 p4 p5
      refine Or.inl ⟨_, rfl, by omega, rfl, fun j hj => ?_⟩
      dsimp only
      by_cases ej : j = k
      · subst ej
        rw [if_pos (show j < j + 1 by omega), ec]
        exact ⟨⟨(puUpd_eq _ _ _).trans p1, (puUpd_eq _ _ _).trans p2, (puUpd_eq _ _ _).trans p3, (puUpd_eq _ _ _).trans p4⟩, (puUpd_eq _ _ _).trans p5⟩
      · obtain ⟨⟨r1, r2, r3, r4⟩, r5⟩ := q2 j hj
        have ei : (if j < k + 1 then ch_cut G s j else G j) = (if j < k then ch_cut G s j else G j) := by
          by_cases z : j < k
          · rw [if_pos z, if_pos (by omega)]
          · rw [if_neg z, if_neg (by omega)]
        rw [ei]
        exact ⟨⟨(puUpd_ne ej).trans r1, (puUpd_ne ej).trans r2, (puUpd_ne ej).trans r3, (puUpd_ne ej).trans r4⟩, (puUpd_ne ej).trans r5⟩
    · rintro ⟨i, a, b, c, d, e⟩ ⟨q0, q1, q2⟩
      simp only at q0 q1 q2
      subst q1
      simp only [fX7_drop_L2]
      rw [puI_s1, show n - 1 + 1 = n by omega, pu_out (by omega)]
      refine ⟨_, rfl, fun j hj => ?_, fun j hj => ?_⟩
      · have := (q2 j (by omega)).1; rw [if_pos hj] at this; exact this
      · have := (q2 j (by omega)).2; rw [if_pos hj] at this; exact this
    · have ei : (if j < s then ch_cut G s j else G j) = G j := by
        by_cases z : j < s
        · rw [if_pos z]; unfold ch_cut; rw [if_pos z]
        · rw [if_neg z]
      dsimp only
      rw [ei]
      exact ⟨h1 j hj, h2 j hj⟩
  obtain ⟨r, er, r1, r2⟩ := key
  unfold fX7_drop
  rw [h3, xsBd_some er]
  unfold fX7_drop_J27
  rw [xsLt_eq, puI_p1 (by omega)]
  exact puOk_some ⟨r1, r2, rfl⟩
theorem p_cuts {n : Nat} {G : puG} {w : Nat → Int32} (hw : puMW n G w) (hn : n ≤ 24) {ld : Int32} {s : Nat} (hs : s < n) : puOk (fX11_cuts w ld (puI (s : Int))) (fun o => o.2 = 0 ∧ puMW (n - 1) (ch_cut G s) o.1) := by
  have key : puOk (xsWh (fun s4 => fX11_cuts_L6 s4.1 s4.2) (puI ((1 + 5 * s : Nat) : Int), w)) (fun r => ∀ j, r j = if 1 + 5 * s ≤ j ∧ j < 1 + 5 * (n - 1) then w (j + 5) else w j) := by
    refine puFor (1 + 5 * (n - 1)) (fun k z => 1 + 5 * s ≤ k ∧ z.1 = puI (k : Int) ∧ ∀ j, z.2 j = if 1 + 5 * s ≤ j ∧ j < k then w (j + 5) else w j) _ ?_ ?_ (1 + 5 * s) _ (by omega) ⟨Nat.le_refl _, rfl, fun j => (if_neg (by omega)).symm⟩
    · rintro k ⟨i, f⟩ hk ⟨q0, q1, q2⟩
      simp only at q0 q1 q2
      subst q1
      have f0 : f 0 = puI (n : Int) := by rw [q2, if_neg (by omega)]; exact hw.1
      have em : fX11_many f = some (puI (n : Int)) := by
        unfold fX11_many
        simp (disch := omega) only [show (0 : Int32) = puI ((0 : Nat) : Int) by rfl, xsCk_in, puI_clN, f0]
      have eb : (1 : Int32) + (5 : Int32) * (puI (n : Int) - 1) = puI ((1 + 5 * (n - 1) : Nat) : Int) := by
        rw [puI_p1 (by omega), show (5 : Int32) = puI 5 by rfl, show (1 : Int32) = puI 1 by rfl, puI_mul, puI_add]; congr 1
      have e5 : puI (k : Int) + (5 : Int32) = puI ((k + 5 : Nat) : Int) := by rw [show (5 : Int32) = puI 5 by rfl, puI_add]; congr 1
      simp only [fX11_cuts_L6]
      rw [em, xsBd_sm, eb, pu_go hk (by omega), e5, xsCk_in (by omega) (by omega) (by omega), xsCk_in (by omega) (by omega) (by omega), xsLt_eq, xsLt_eq, puI_clN (by omega), puI_clN (by omega), puI_s1]
      refine Or.inl ⟨_, rfl, by omega, rfl, fun j => ?_⟩
      dsimp only
      by_cases e : j = k
      · subst e
        rw [puUpd_eq, if_pos (by omega), q2, if_neg (by omega)]
      · rw [puUpd_ne e, q2 j]
        by_cases z : 1 + 5 * s ≤ j ∧ j < k
        · rw [if_pos z, if_pos (by omega)]
        · rw [if_neg z, if_neg (by omega)]
    · rintro ⟨i, f⟩ ⟨q0, q1, q2⟩
      simp only at q0 q1 q2
      subst q1
      have f0 : f 0 = puI (n : Int) := by rw [q2, if_neg (by omega)]; exact hw.1
      have em : fX11_many f = some (puI (n : Int)) := by
        unfold fX11_many
        simp (disch := omega) only [show (0 : Int32) = puI ((0 : Nat) : Int) by rfl, xsCk_in, puI_clN, f0]
      have eb : (1 : Int32) + (5 : Int32) * (puI (n : Int) - 1) = puI ((1 + 5 * (n - 1) : Nat) : Int) := by
        rw [puI_p1 (by omega), show (5 : Int32) = puI 5 by rfl, show (1 : Int32) = puI 1 by rfl, puI_mul, puI_add]; congr 1
      simp only [fX11_cuts_L6]
      rw [em, xsBd_sm, eb, pu_out (by omega)]
      exact ⟨_, rfl, q2⟩
  obtain ⟨r, er, hr⟩ := key
  have eI : (1 : Int32) + (5 : Int32) * puI (s : Int) = puI ((1 + 5 * s : Nat) : Int) := by rw [show (5 : Int32) = puI 5 by rfl, show (1 : Int32) = puI 1 by rfl, puI_mul, puI_add]; congr 1
  unfold fX11_cuts
  rw [eI, xsLt_eq, xsBd_some er]
  unfold fX11_cuts_J40
  rw [show (0 : Int32) = puI ((0 : Nat) : Int) by rfl, xsCk_in (by omega) (by omega) (by omega), xsCk_in (by omega) (by omega) (by omega), xsLt_eq, puI_clN (by omega), hr 0, if_neg (by omega), hw.1, puI_p1 (by omega)]
  refine puOk_some ⟨rfl, by dsimp only; exact puUpd_eq _ _ _, fun j hj => ?_⟩
  have g : ∀ i, 0 < i → upd r 0 (puI ((n - 1 : Nat) : Int)) i = r i := fun i hi => puUpd_ne (by omega)
  unfold ch_cut
  by_cases e : j < s
  · rw [if_pos e]
    obtain ⟨k1, k2, k3, k4, k5⟩ := hw.2 j (by omega)
    have g2 : ∀ i, i < 5 → r (1 + 5 * j + i) = w (1 + 5 * j + i) := fun i hi => by rw [hr, if_neg (by omega)]
    exact ⟨(g _ (by omega)).trans ((g2 0 (by omega)).trans k1), (g _ (by omega)).trans ((g2 1 (by omega)).trans k2), (g _ (by omega)).trans ((g2 2 (by omega)).trans k3), (g _ (by omega)).trans ((g2 3 (by omega)).trans k4), (g _ (by omega)).trans ((g2 4 (by omega)).trans k5)⟩
  · rw [if_neg e]
    obtain ⟨k1, k2, k3, k4, k5⟩ := hw.2 (j + 1) (by omega)
    have g2 : ∀ i, i < 5 → r (1 + 5 * j + i) = w (1 + 5 * (j + 1) + i) := fun i hi => by rw [hr, if_pos (by omega)]; congr 1; omega
    exact ⟨(g _ (by omega)).trans ((g2 0 (by omega)).trans k1), (g _ (by omega)).trans ((g2 1 (by omega)).trans k2), (g _ (by omega)).trans ((g2 2 (by omega)).trans k3), (g _ (by omega)).trans ((g2 3 (by omega)).trans k4), (g _ (by omega)).trans ((g2 4 (by omega)).trans k5)⟩
/-- one SEGMENT other -/
def ch_set (G : puG) (s : Nat) (q : puS) : puG := fun j => if j = s then q else G j
theorem ch_setV {n : Nat} {G : puG} (hv : puVal n G) {s : Nat} {q : puS} (vq : puV q) : puVal n (ch_set G s q) := by
  refine ⟨hv.1, fun j hj => ?_⟩
  unfold ch_set
  by_cases e : j = s
  · rw [if_pos e]; exact vq
  · rw [if_neg e]; exact hv.2 j hj
theorem ch_setM {n : Nat} {G : puG} {w w' : Nat → Int32} (hw : puMW n G w) {s : Nat} {q : puS} (h5 : puM5 w' (1 + 5 * s) q) (ho : ∀ j, j < 1 + 5 * s ∨ 1 + 5 * s + 5 ≤ j → w' j = w j) : puMW n (ch_set G s q) w' := by
  refine ⟨(ho 0 (by omega)).trans hw.1, fun j hj => ?_⟩
  unfold ch_set
  by_cases e : j = s
  · subst e; rw [if_pos rfl]; exact h5
  · rw [if_neg e]
    obtain ⟨k1, k2, k3, k4, k5⟩ := hw.2 j hj
    exact ⟨(ho _ (by omega)).trans k1, (ho _ (by omega)).trans k2, (ho _ (by omega)).trans k3, (ho _ (by omega)).trans k4, (ho _ (by omega)).trans k5⟩
def ch_mv (q : puS) (a b : Int) : puS := (q.1 + a, q.2.1 + b, q.2.2.1 + a, q.2.2.2.1 + b, q.2.2.2.2)
def ch_can (q : puS) (a b : Int) : Prop := (puInC (q.1 + a) ∧ puInC (q.2.2.1 + a)) ∧ puInC (q.2.1 + b) ∧ puInC (q.2.2.2.1 + b)
theorem ch_mvV {q : puS} (v : puV q) {a b : Int} (h : ch_can q a b) : puV (ch_mv q a b) := by
  obtain ⟨-, vt, vd⟩ := v
  obtain ⟨⟨c1, c2⟩, c3, c4⟩ := h
  unfold puInC at *
  unfold puV ch_mv puW puH at *
  simp only at *
  omega
theorem ch_mvO {q : puS} (v : puV q) (a b : Int) : ch_o (q.1 + a) (q.2.1 + b) (q.2.2.1 + a) (q.2.2.2.1 + b) q.2.2.2.2 = ch_mv q a b := by
  obtain ⟨-, -, vd⟩ := v
  unfold ch_o
  unfold puW puH at vd
  rw [puE_pos (by omega)]
  rfl
theorem p_canShift {lx ly rx ry : Nat → Int32} {s : Nat} {q : puS} (h : puQ lx ly rx ry s q) (v : puV q) (hs : s < 24) {a b : Int} (a1 : -2147483648 ≤ a) (a2 : a ≤ 2147483647) (b1 : -2147483648 ≤ b) (b2 : b ≤ 2147483647) : fX7_canShift lx ly rx ry (puI (s : Int)) (puJ a) (puJ b) = some (puB (ch_can q a b)) := by
  obtain ⟨q1, q2, q3, q4⟩ := h
  obtain ⟨⟨c1, c2, c3, c4⟩, -, -⟩ := v
  unfold fX7_canShift
  simp (disch := omega) only [xsCk_in, puI_clN, q1, q2, q3, q4, puI_l, puJ_add]
  rw [p_isCoord (by omega) (by omega), p_isCoord (by omega) (by omega), p_isCoord (by omega) (by omega), p_isCoord (by omega) (by omega)]
  simp only [xsBd_sm]
  unfold ch_can
  by_cases k1 : puInC (q.1 + a)
  · rw [pu_bt k1]
    by_cases k2 : puInC (q.2.2.1 + a)
    · rw [pu_bt k2]
      by_cases k3 : puInC (q.2.1 + b)
      · rw [pu_bt k3]
        by_cases k4 : puInC (q.2.2.2.1 + b)
        · rw [pu_bt k4, puB_pos ⟨⟨k1, k2⟩, k3, k4⟩]
        · rw [pu_bf k4, puB_neg (fun z => k4 z.2.2)]
      · rw [pu_bf k3, puB_neg (fun z => k3 z.2.1)]
    · rw [pu_bf k2, puB_neg (fun z => k2 z.1.2)]
  · rw [pu_bf k1, puB_neg (fun z => k1 z.1.1)]
theorem p_canMove {n : Nat} {G : puG} {w : Nat → Int32} (hv : puVal n G) (hw : puMW n G w) {s : Nat} (hs : s < n) {a b : Int} (a1 : -2147483648 ≤ a) (a2 : a ≤ 2147483647) (b1 : -2147483648 ≤ b) (b2 : b ≤ 2147483647) : fX11_canMove w (puI (s : Int)) (puI a) (puI b) = some (puB (ch_can (G s) a b)) := by
  have hn := hv.1
  obtain ⟨q1, q2, q3, q4, -⟩ := hw.2 s hs
  obtain ⟨⟨c1, c2, c3, c4⟩, -, -⟩ := hv.2 s hs
  unfold fX11_canMove
  rw [p_of0 (by omega), p_of1 (by omega), p_of2 (by omega), p_of3 (by omega)]
  simp (disch := omega) only [xsBd_sm, q1, q2, q3, q4, puI_l, puJ_add]
  rw [show (-999 : Int64) = puJ (-999) by rfl, show (999 : Int64) = puJ 999 by rfl, p_in (by omega) (by omega) (by omega), p_in (by omega) (by omega) (by omega), p_in (by omega) (by omega) (by omega), p_in (by omega) (by omega) (by omega)]
  simp only [xsBd_sm]
  unfold ch_can puInC
  by_cases k1 : -999 ≤ (G s).1 + a ∧ (G s).1 + a ≤ 999
  · rw [pu_bt k1]
    by_cases k2 : -999 ≤ (G s).2.2.1 + a ∧ (G s).2.2.1 + a ≤ 999
    · rw [pu_bt k2]
      by_cases k3 : -999 ≤ (G s).2.1 + b ∧ (G s).2.1 + b ≤ 999
      · rw [pu_bt k3]
        by_cases k4 : -999 ≤ (G s).2.2.2.1 + b ∧ (G s).2.2.2.1 + b ≤ 999
        · rw [pu_bt k4, puB_pos ⟨⟨k1, k2⟩, k3, k4⟩]
        · rw [pu_bf k4, puB_neg (fun z => k4 z.2.2)]
      · rw [pu_bf k3, puB_neg (fun z => k3 z.2.1)]
    · rw [pu_bf k2, puB_neg (fun z => k2 z.1.2)]
  · rw [pu_bf k1, puB_neg (fun z => k1 z.1.1)]
theorem p_shift {n : Nat} {G : puG} {v : xsV} (hk : puKS n G v) (hn : n ≤ 24) {s : Nat} (hs : s < n) (a b : Int) : puOk (fX7_shift v.1 v.2.1 v.2.2.1 v.2.2.2.1 (puI (s : Int)) (puI a) (puI b)) (fun o => puKS n (ch_set G s (ch_mv (G s) a b)) (o.1, o.2.1, o.2.2.1, o.2.2.2, v.2.2.2.2.1, v.2.2.2.2.2)) := by
  obtain ⟨h1, h2, h3⟩ := hk
  obtain ⟨q1, q2, q3, q4⟩ := h1 s hs
  unfold fX7_shift
  simp (disch := omega) only [xsCk_in, puI_clN, q1, q2, q3, q4, puI_add, xsLt_eq]
  refine puOk_some ⟨fun j hj => ?_, fun j hj => ?_, h3⟩
  · unfold ch_set
    by_cases e : j = s
    · subst e
      rw [if_pos rfl]
      exact ⟨puUpd_eq _ _ _, puUpd_eq _ _ _, puUpd_eq _ _ _, puUpd_eq _ _ _⟩
    · rw [if_neg e]
      obtain ⟨k1, k2, k3, k4⟩ := h1 j hj
      exact ⟨(puUpd_ne e).trans k1, (puUpd_ne e).trans k2, (puUpd_ne e).trans k3, (puUpd_ne e).trans k4⟩
  · unfold ch_set
    dsimp only
    by_cases e : j = s
    · subst e
      rw [if_pos rfl]; exact h2 j hj
    · rw [if_neg e]; exact h2 j hj
theorem p_moves {n : Nat} {G : puG} {w : Nat → Int32} (hv : puVal n G) (hw : puMW n G w) {ld : Int32} {s : Nat} (hs : s < n) {a b : Int} (h : ch_can (G s) a b) : puOk (fX11_moves w ld (puI (s : Int)) (puI a) (puI b)) (fun o => o.2 = 0 ∧ puMW n (ch_set G s (ch_mv (G s) a b)) o.1) := by
  have hn := hv.1
  obtain ⟨q1, q2, q3, q4, q5⟩ := hw.2 s hs
  obtain ⟨o, eo, o2, o5, oj⟩ := p_puts (w := w) (ld := ld) (s := s) (by omega) (t := (G s).2.2.2.2) h.1.1 h.2.1 h.1.2 h.2.2
  rw [ch_mvO (hv.2 s hs)] at o5
  unfold fX11_moves
  rw [p_of0 (by omega), p_of1 (by omega), p_of2 (by omega), p_of3 (by omega), p_of4 (by omega)]
  simp only [xsBd_sm, q1, q2, q3, q4, q5, puI_add]
  rw [xsBd_some eo]
  exact puOk_some ⟨o2, ch_setM hw o5 oj⟩
/-- all turned -/
noncomputable def ch_tn (q : puS) : puS := ch_o (-q.2.1) q.1 (-q.2.2.2.1) q.2.2.1 q.2.2.2.2
noncomputable def ch_turn (G : puG) : puG := fun j => ch_tn (G j)
theorem ch_tnV {q : puS} (v : puV q) : puV (ch_tn q) := by
  obtain ⟨⟨c1, c2, c3, c4⟩, vt, -⟩ := v
  exact ch_oV (by unfold puInC; omega) (by unfold puInC; omega) (by unfold puInC; omega) (by unfold puInC; omega) vt
theorem ch_turnV {n : Nat} {G : puG} (hv : puVal n G) : puVal n (ch_turn G) := ⟨hv.1, fun j hj => ch_tnV (hv.2 j hj)⟩
theorem p_rotate {n : Nat} {G : puG} {v : xsV} (hv : puVal n G) (hk : puKS n G v) : puOk (fX7_rotate v.1 v.2.1 v.2.2.1 v.2.2.2.1 v.2.2.2.2.2) (fun o => puKS n (ch_turn G) (o.1, o.2.1, o.2.2.1, o.2.2.2, v.2.2.2.2.1, v.2.2.2.2.2)) := by
  obtain ⟨h1, h2, h3⟩ := hk
  have hn := hv.1
  have key : puOk (xsWh (fun s6 => fX7_rotate_L2 (puI (n : Int)) s6.1 s6.2.1 s6.2.2.1 s6.2.2.2.1 s6.2.2.2.2) ((0 : Int32), v.1, v.2.1, v.2.2.1, v.2.2.2.1)) (fun r => puKW n (ch_turn G) r.1 r.2.1 r.2.2.1 r.2.2.2) := by
    refine puFor1 n (fun k z => z.1 = puI (k : Int) ∧ puKW n (fun j => if j < k then ch_turn G j else G j) z.2.1 z.2.2.1 z.2.2.2.1 z.2.2.2.2) _ ⟨rfl, fun s hs => by dsimp only; rw [if_neg (by omega)]; exact h1 s hs⟩ ?_ ?_
    · rintro k ⟨i, a, b, c, d⟩ hkn ⟨q1, q2⟩
      simp only at q1 q2
      subst q1
      obtain ⟨p1, p2, p3, p4⟩ := q2 k hkn
      dsimp only at p1 p2 p3 p4
      rw [if_neg (show ¬ k < k by omega)] at p1 p2 p3 p4
      obtain ⟨⟨c1, c2, c3, c4⟩, -, -⟩ := hv.2 k hkn
      simp only [fX7_rotate_L2]
      simp (disch := omega) only [xsCk_in, puI_clN, p1, p2, p3, p4, puI_neg]
      rw [pu_go hkn (by omega), p_put (by omega) (G k).2.2.2.2 (by unfold puInC; omega) (by unfold puInC; omega) (by unfold puInC; omega) (by unfold puInC; omega), xsBd_sm, xsLt_eq, puI_s1]
      refine ⟨_, rfl, rfl, fun j hj => ?_⟩
      dsimp only
      by_cases ej : j = k
      · subst ej
        rw [if_pos (show j < j + 1 by omega)]
        exact ⟨puUpd_eq _ _ _, puUpd_eq _ _ _, puUpd_eq _ _ _, puUpd_eq _ _ _⟩
      · obtain ⟨r1, r2, r3, r4⟩ := q2 j hj
        have ei : (if j < k + 1 then ch_turn G j else G j) = (if j < k then ch_turn G j else G j) := by
          by_cases z : j < k
          · rw [if_pos z, if_pos (by omega)]
          · rw [if_neg z, if_neg (by omega)]
        rw [ei]
        exact ⟨(puUpd_ne ej).trans r1, (puUpd_ne ej).trans r2, (puUpd_ne ej).trans r3, (puUpd_ne ej).trans r4⟩
    · rintro ⟨i, a, b, c, d⟩ ⟨q1, q2⟩
      simp only at q1 q2
      subst q1
      simp only [fX7_rotate_L2]
      rw [pu_out (by omega)]
      refine ⟨_, rfl, fun j hj => ?_⟩
      have := q2 j hj
      dsimp only at this
      rw [if_pos hj] at this
      exact this
  obtain ⟨r, er, hr⟩ := key
  unfold fX7_rotate
  rw [h3, xsBd_some er]
  refine puOk_some ⟨hr, fun s hs => ?_, rfl⟩
  unfold ch_turn ch_tn
  rw [ch_oT]; exact h2 s hs
theorem p_turns {n : Nat} {G : puG} {w : Nat → Int32} (hv : puVal n G) (hw : puMW n G w) {ld : Int32} : puOk (fX11_turns w ld) (fun o => ((n = 0 ∧ o.2 = ld) ∨ o.2 = 0) ∧ puMW n (ch_turn G) o.1) := by
  have hn := hv.1
  have key : puOk (xsWh (fun s4 => fX11_turns_L2 s4.1 s4.2.1 s4.2.2) ((0 : Int32), w, ld)) (fun r => ((n = 0 ∧ r.2 = ld) ∨ r.2 = 0) ∧ puMW n (ch_turn G) r.1) := by
    refine puFor1 n (fun k z => z.1 = puI (k : Int) ∧ puMW n (fun j => if j < k then ch_turn G j else G j) z.2.1 ∧ ((k = 0 ∧ z.2.2 = ld) ∨ z.2.2 = 0)) _ ⟨rfl, ⟨hw.1, fun s hs => by dsimp only; rw [if_neg (by omega)]; exact hw.2 s hs⟩, Or.inl ⟨rfl, rfl⟩⟩ ?_ ?_
    · rintro k ⟨i, f, l⟩ hkn ⟨q1, q2, q3⟩
      simp only at q1 q2 q3
      subst q1
      obtain ⟨p1, p2, p3, p4, p5⟩ := q2.2 k hkn
      dsimp only at p1 p2 p3 p4 p5
      rw [if_neg (show ¬ k < k by omega)] at p1 p2 p3 p4 p5
      obtain ⟨⟨c1, c2, c3, c4⟩, -, -⟩ := hv.2 k hkn
      obtain ⟨o, eo, o2, o5, oj⟩ := p_puts (w := f) (ld := l) (s := k) (by omega) (x := -(G k).2.1) (y := (G k).1) (a := -(G k).2.2.2.1) (b := (G k).2.2.1) (t := (G k).2.2.2.2) (by unfold puInC; omega) (by unfold puInC; omega) (by unfold puInC; omega) (by unfold puInC; omega)
      simp only [fX11_turns_L2]
      rw [p_many q2, xsBd_sm, pu_go hkn (by omega), p_of0 (by omega), p_of1 (by omega), p_of2 (by omega), p_of3 (by omega), p_of4 (by omega)]
      simp only [xsBd_sm, p1, p2, p3, p4, p5, puI_neg]
      rw [xsBd_some eo, xsLt_eq, puI_s1]
      have ms := ch_setM q2 o5 oj
      refine ⟨_, rfl, rfl, ⟨ms.1, fun j hj => ?_⟩, Or.inr o2⟩
      have m := ms.2 j hj
      unfold ch_set at m
      dsimp only
      by_cases ej : j = k
      · subst ej
        rw [if_pos rfl] at m
        rw [if_pos (show j < j + 1 by omega)]
        exact m
      · rw [if_neg ej] at m
        have ei : (if j < k + 1 then ch_turn G j else G j) = (if j < k then ch_turn G j else G j) := by
          by_cases z : j < k
          · rw [if_pos z, if_pos (by omega)]
          · rw [if_neg z, if_neg (by omega)]
        rw [ei]
        exact m
    · rintro ⟨i, f, l⟩ ⟨q1, q2, q3⟩
      simp only at q1 q2 q3
      subst q1
      simp only [fX11_turns_L2]
      rw [p_many q2, xsBd_sm, pu_out (by omega)]
      refine ⟨_, rfl, q3, q2.1, fun j hj => ?_⟩
      have := q2.2 j hj
      dsimp only at this
      rw [if_pos hj] at this
      exact this
  obtain ⟨r, er, hr⟩ := key
  unfold fX11_turns
  rw [xsBd_some er]
  exact puOk_some hr
