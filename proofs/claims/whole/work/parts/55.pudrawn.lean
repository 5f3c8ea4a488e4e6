/-! PURE: the class's picture, drawn -/
def puX (n : Nat) (G : puG) (k : Nat) : Prop := puCr n G ((puCan n G).2 k)
def puOo (n : Nat) (G : puG) (s k : Nat) : Prop := k < (puCan n G).1 ∧ puO n G s k
/-- the class's picture is that of a world -/
def puKPic (n : Nat) (G : puG) (pn : Int32) (t l : Nat → Int32) (mp ap tn : Int32) (ex ey ed : Nat → Int64) (bu cr eo le re : Nat → Int32) (sz nc sn : Int32) (de : Nat → Int32) (ne : Int32) : Prop :=
  (puOkP n G ∧ (puCan n G).1 ≤ 324) ∧ (pn = puI (n : Int) ∧ tn = puI (n : Int) ∧ sn = puI (n : Int)) ∧
  (puTie n t (fun s i => i < n ∧ s ≠ i ∧ puKd (G s) (G i) ≠ 0) ∧ puTie n l (fun s i => i < n ∧ s ≠ i ∧ puKd (G s) (G i) = 2)) ∧
  (mp = puI (puPr n (fun a b => puKd (G a) (G b) = 1) : Int) ∧ ap = puI (puPr n (fun a b => puKd (G a) (G b) = 2) : Int)) ∧
  (puEvs (puCan n G).1 (puCan n G).2 ex ey ed ∧ sz = puI ((puCan n G).1 : Int)) ∧
  (∀ k, k < (puCan n G).1 → puSt (bu k) (fun s => puO n G s k)) ∧
  ((∀ k, k < (puCan n G).1 → cr k = puI (puXo (puX n G) k)) ∧ puEo (puX n G) (puCan n G).1 eo ∧ nc = puI (puN (puX n G) (puCan n G).1 : Int)) ∧
  puEnd n G (puCan n G).1 (puCan n G).2 le re ∧ puGr (puCan n G).1 (puES (puOo n G) (puCan n G).1 n) de ne
def puKP27 (n : Nat) (G : puG) (o : Int32 × Int32 × Int64 × Int64 × Int64 × Int32 × Int32 × Int32 × Int32 × (Nat → Int32) × (Nat → Int32) × Int32 × Int32 × Int32 × (Nat → Int64) × (Nat → Int64) × (Nat → Int64) × (Nat → Int32) × (Nat → Int32) × (Nat → Int32) × (Nat → Int32) × (Nat → Int32) × Int32 × Int32 × Int32 × (Nat → Int32) × Int32) : Prop := puKPic n G o.1 o.2.2.2.2.2.2.2.2.2.1 o.2.2.2.2.2.2.2.2.2.2.1 o.2.2.2.2.2.2.2.2.2.2.2.1 o.2.2.2.2.2.2.2.2.2.2.2.2.1 o.2.2.2.2.2.2.2.2.2.2.2.2.2.1 o.2.2.2.2.2.2.2.2.2.2.2.2.2.2.1 o.2.2.2.2.2.2.2.2.2.2.2.2.2.2.2.1 o.2.2.2.2.2.2.2.2.2.2.2.2.2.2.2.2.1 o.2.2.2.2.2.2.2.2.2.2.2.2.2.2.2.2.2.1 o.2.2.2.2.2.2.2.2.2.2.2.2.2.2.2.2.2.2.1 o.2.2.2.2.2.2.2.2.2.2.2.2.2.2.2.2.2.2.2.1 o.2.2.2.2.2.2.2.2.2.2.2.2.2.2.2.2.2.2.2.2.1 o.2.2.2.2.2.2.2.2.2.2.2.2.2.2.2.2.2.2.2.2.2.1 o.2.2.2.2.2.2.2.2.2.2.2.2.2.2.2.2.2.2.2.2.2.2.1 o.2.2.2.2.2.2.2.2.2.2.2.2.2.2.2.2.2.2.2.2.2.2.2.1 o.2.2.2.2.2.2.2.2.2.2.2.2.2.2.2.2.2.2.2.2.2.2.2.2.1 o.2.2.2.2.2.2.2.2.2.2.2.2.2.2.2.2.2.2.2.2.2.2.2.2.2.1 o.2.2.2.2.2.2.2.2.2.2.2.2.2.2.2.2.2.2.2.2.2.2.2.2.2.2
def puKP28 (n : Nat) (G : puG) (o : Int32 × Int32 × Int32 × Int64 × Int64 × Int64 × Int32 × Int32 × Int32 × Int32 × (Nat → Int32) × (Nat → Int32) × Int32 × Int32 × Int32 × (Nat → Int64) × (Nat → Int64) × (Nat → Int64) × (Nat → Int32) × (Nat → Int32) × (Nat → Int32) × (Nat → Int32) × (Nat → Int32) × Int32 × Int32 × Int32 × (Nat → Int32) × Int32) : Prop := puKPic n G o.2.1 o.2.2.2.2.2.2.2.2.2.2.1 o.2.2.2.2.2.2.2.2.2.2.2.1 o.2.2.2.2.2.2.2.2.2.2.2.2.1 o.2.2.2.2.2.2.2.2.2.2.2.2.2.1 o.2.2.2.2.2.2.2.2.2.2.2.2.2.2.1 o.2.2.2.2.2.2.2.2.2.2.2.2.2.2.2.1 o.2.2.2.2.2.2.2.2.2.2.2.2.2.2.2.2.1 o.2.2.2.2.2.2.2.2.2.2.2.2.2.2.2.2.2.1 o.2.2.2.2.2.2.2.2.2.2.2.2.2.2.2.2.2.2.1 o.2.2.2.2.2.2.2.2.2.2.2.2.2.2.2.2.2.2.2.1 o.2.2.2.2.2.2.2.2.2.2.2.2.2.2.2.2.2.2.2.2.1 o.2.2.2.2.2.2.2.2.2.2.2.2.2.2.2.2.2.2.2.2.2.1 o.2.2.2.2.2.2.2.2.2.2.2.2.2.2.2.2.2.2.2.2.2.2.1 o.2.2.2.2.2.2.2.2.2.2.2.2.2.2.2.2.2.2.2.2.2.2.2.1 o.2.2.2.2.2.2.2.2.2.2.2.2.2.2.2.2.2.2.2.2.2.2.2.2.1 o.2.2.2.2.2.2.2.2.2.2.2.2.2.2.2.2.2.2.2.2.2.2.2.2.2.1 o.2.2.2.2.2.2.2.2.2.2.2.2.2.2.2.2.2.2.2.2.2.2.2.2.2.2.1 o.2.2.2.2.2.2.2.2.2.2.2.2.2.2.2.2.2.2.2.2.2.2.2.2.2.2.2
theorem puOkP_A {n : Nat} {G : puG} (h : puOkP n G) {s : Nat} (hs : s < n) : puOo n G s (puIx (puCan n G).1 (puCan n G).2 (puA (G s))) ∧ puOo n G s (puIx (puCan n G).1 (puCan n G).2 (puZ (G s))) := by
  obtain ⟨⟨a1, a2⟩, z1, z2⟩ := puEvt_A h.2 hs
  refine ⟨⟨a1, hs, ?_⟩, z1, hs, ?_⟩
  · rw [a2]; exact puOn_A (h.1.2 s hs)
  · rw [z2]; exact puOn_Z (h.1.2 s hs)
theorem puOo_le {n : Nat} {G : puG} (h : puOkP n G) {s k : Nat} (ho : puOo n G s k) : puIx (puCan n G).1 (puCan n G).2 (puA (G s)) ≤ k ∧ k ≤ puIx (puCan n G).1 (puCan n G).2 (puZ (G s)) := by
  obtain ⟨h1, h2, h3⟩ := ho
  obtain ⟨l1, l2⟩ := puEnd_le h.2 h2 h1
  exact ⟨l1.mpr h3.2.1, l2.mpr h3.2.2⟩
theorem p_draw {n : Nat} {G : puG} {lx ly rx ry : Nat → Int32} (hv : puVal n G) (hk : puKW n G lx ly rx ry) {pn : Int32} {k0 : Int32} {x0 y0 l0 : Int64} {f0 f1 f2 f3 : Int32} {t l : Nat → Int32} {mp ap tn : Int32} {ex ey ed : Nat → Int64} {bu cr eo le re : Nat → Int32} {sz nc sn : Int32} {de : Nat → Int32} {ne : Int32} :
    puOk (fX5_draw pn k0 x0 y0 l0 f0 f1 f2 f3 t l mp ap tn ex ey ed bu cr eo le re sz nc sn de ne lx ly rx ry (puI (n : Int))) (puKP27 n G) := by
  have hn := hv.1
  obtain ⟨o1, eo1, c1, c2, c3, c4, c5⟩ := p_tclear hn (t := t) (l := l) (m := mp) (al := ap) (sz := tn)
  unfold fX5_draw
  rw [xsBd_some eo1]
  simp only [fX1_clear, xsBd_sm]
  have hd : puDr n G (fun s => s < 0) 0 0 0 o1.1 o1.2.1 o1.2.2.1 o1.2.2.2.1 ex ey ed 0 := by
    refine ⟨puTie_c c1 (fun s i _ _ => ⟨fun q => q.elim, fun q => ?_⟩), puTie_c c2 (fun s i _ _ => ⟨fun q => q.elim, fun q => ?_⟩), c3, c4, 0, fun _ => (0, 0), rfl, fun k hk => by omega, fun i j _ hj => by omega, fun p => ?_, Nat.le_refl _⟩
    · have := q.1; unfold puTf at this; omega
    · have := q.1; unfold puTf at this; omega
    · constructor
      · rintro ⟨k, hk, -⟩; omega
      · rintro (⟨s, hs, -⟩ | ⟨x, y, hxy, -⟩)
        · omega
        · omega
  obtain ⟨r, er, d1, d2, d3, d4, N, P, d5, d6, d7, d8, d9⟩ := p_draw28 hv hk hd (k0 := k0) (x0 := x0) (y0 := y0) (l0 := l0) (f0 := f0) (f1 := f1) (f2 := f2) (f3 := f3)
  rw [xsBd_some er]
  have hE : puEvt n G N P := by
    refine ⟨d7, fun p => ?_⟩
    rw [d8]
    unfold puPk puPt puCr
    constructor
    · rintro (q | ⟨a, b, q1, q2, q3⟩)
      · exact Or.inl q
      · exact Or.inr ⟨a, b, by omega, by omega, q2, q3⟩
    · rintro (q | ⟨a, b, q0, q1, q2, q3⟩)
      · exact Or.inl q
      · exact Or.inr ⟨a, b, by omega, q2, q3⟩
  obtain ⟨hC, hNN, hPP⟩ := puCan_of hE
  have d6 := puEvs_c d6 hPP
  rw [hNN] at d5 d6 d9
  clear hE hPP d7 d8 hNN
  have lt : puTie n r.2.2.2.2.2.2.2.2.2.1 (fun s i => i < n ∧ s ≠ i ∧ puKd (G s) (G i) = 2) := puTie_c d2 (fun s i hs _ => by
    have : puTf n 0 s i ↔ (i < n ∧ s ≠ i) := by unfold puTf; omega
    rw [this, and_assoc])
  have tt : puTie n r.2.2.2.2.2.2.2.2.1 (fun s i => i < n ∧ s ≠ i ∧ puKd (G s) (G i) ≠ 0) := puTie_c d1 (fun s i hs _ => by
    have : puTf n 0 s i ↔ (i < n ∧ s ≠ i) := by unfold puTf; omega
    rw [this, and_assoc])
  simp only [fX5_draw_J165]
  rw [d5, c5]
  obtain ⟨g, eg, g1, g2, g3, g4, g5, g6⟩ := p_gather hv hk d6 hC d9 lt (bu := bu) (cr := cr) (eo := eo) (le := le) (re := re) (sn := 0)
  rw [xsBd_some eg]
  have hP : puOkP n G := ⟨hv, hC⟩
  obtain ⟨o, eo2, ho⟩ := p_graph (O := puOo n G) (n := n) (bu := g.1) (le := g.2.2.2.1) (re := g.2.2.2.2.1) (de := de) (ne := ne) hn d9 (fun k hk => puSt_c (g1 k hk) (fun i _ => ⟨fun q => ⟨hk, q⟩, fun q => q.2⟩)) (fun i k q => ⟨q.2.1, q.1⟩) (fun s hs => by
    obtain ⟨a1, a2⟩ := puOkP_A hP hs
    exact ⟨_, _, (g4 s hs).1, (g4 s hs).2, a1, a2, fun k q => puOo_le hP q⟩)
  rw [xsBd_some eo2]
  exact puOk_some ⟨⟨hP, d9⟩, ⟨rfl, rfl, g6⟩, ⟨tt, lt⟩, ⟨d3, d4⟩, ⟨d6, rfl⟩, g1, ⟨g2, g3, g5⟩, g4, ho⟩
/-- the class's picture as it is kept: stale, or right -/
def puKSt (n : Nat) (G : puG) (st : Int32) (pn : Int32) (t l : Nat → Int32) (mp ap tn : Int32) (ex ey ed : Nat → Int64) (bu cr eo le re : Nat → Int32) (sz nc sn : Int32) (de : Nat → Int32) (ne : Int32) : Prop := st = 1 ∨ (st = 0 ∧ puKPic n G pn t l mp ap tn ex ey ed bu cr eo le re sz nc sn de ne)
theorem p_drawn {n : Nat} {G : puG} {lx ly rx ry : Nat → Int32} (hv : puVal n G) (hk : puKW n G lx ly rx ry) {st pn : Int32} {k0 : Int32} {x0 y0 l0 : Int64} {f0 f1 f2 f3 : Int32} {t l : Nat → Int32} {mp ap tn : Int32} {ex ey ed : Nat → Int64} {bu cr eo le re : Nat → Int32} {sz nc sn : Int32} {de : Nat → Int32} {ne : Int32} (h : puKSt n G st pn t l mp ap tn ex ey ed bu cr eo le re sz nc sn de ne) :
    puOk (fX10_drawn st pn k0 x0 y0 l0 f0 f1 f2 f3 t l mp ap tn ex ey ed bu cr eo le re sz nc sn de ne lx ly rx ry (puI (n : Int))) (fun o => o.1 = 0 ∧ puKP28 n G o) := by
  unfold fX10_drawn
  rcases h with h | ⟨h, h2⟩
  · rw [xsBr_neg (by rw [h]; decide)]
    obtain ⟨o, eo, ho⟩ := p_draw hv hk (pn := pn) (k0 := k0) (x0 := x0) (y0 := y0) (l0 := l0) (f0 := f0) (f1 := f1) (f2 := f2) (f3 := f3) (t := t) (l := l) (mp := mp) (ap := ap) (tn := tn) (ex := ex) (ey := ey) (ed := ed) (bu := bu) (cr := cr) (eo := eo) (le := le) (re := re) (sz := sz) (nc := nc) (sn := sn) (de := de) (ne := ne)
    rw [xsBd_some eo, xsBd_sm]
    exact puOk_some ⟨rfl, ho⟩
  · rw [xsBr_pos h, xsBd_sm]
    exact puOk_some ⟨h, h2⟩
