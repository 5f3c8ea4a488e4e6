/-! PURE: the insides of an EVENT, alike -/
def puInn (n : Nat) (G : puG) (k : Nat) (s : Nat) : Prop := (puO n G s k ∧ ¬ (s < n ∧ (puCan n G).2 k = puA (G s))) ∧ ¬ (s < n ∧ (puCan n G).2 k = puZ (G s))
theorem p_insides {n : Nat} {G : puG} (hv : puVal n G) (ho : puOkP n G) (hN : (puCan n G).1 ≤ 324) {bu le re : Nat → Int32} (hl : puEnd n G (puCan n G).1 (puCan n G).2 le re) {k : Nat} (hk : k < (puCan n G).1) (hb : puSt (bu k) (fun s => puO n G s k)) : puOk (fX1_insidesIn bu le re (puI (n : Int)) (puI (k : Int))) (fun r => puSt r (puInn n G k)) := by
  obtain ⟨r1, e1, h1⟩ := p_lefts hv ho hN hl hk
  obtain ⟨r2, e2, h2⟩ := p_rights hv ho hN hl hk
  unfold fX1_insidesIn
  rw [xsCk_in (by omega) (by omega) (by omega), e1, xsBd_sm, e2, xsBd_sm, puI_clN (by omega)]
  exact puOk_some (puSt_and (puSt_and hb (puSt_not h1)) (puSt_not h2))
theorem p_within {n : Nat} {G : puG} {w : Nat → Int32} {ex ey ed : Nat → Int64} (hv : puVal n G) (hw : puMW n G w) (hN : (puCan n G).1 ≤ 324) (he : puEvs (puCan n G).1 (puCan n G).2 ex ey ed) {bu : Nat → Int32} {k : Nat} (hk : k < (puCan n G).1) (hb : puSt (bu k) (fun s => puO n G s k)) : puOk (fX11_within w ex ey ed bu (puI (k : Int))) (fun r => puSt r (puInn n G k)) := by
  obtain ⟨r1, e1, h1⟩ := p_endsAt1 hv hw he hk hN
  obtain ⟨r2, e2, h2⟩ := p_endsAt0 hv hw he hk hN
  unfold fX11_within
  rw [xsCk_in (by omega) (by omega) (by omega), e1, xsBd_sm, e2, xsBd_sm, puI_clN (by omega)]
  exact puOk_some (puSt_and (puSt_and hb (puSt_not h1)) (puSt_not h2))
