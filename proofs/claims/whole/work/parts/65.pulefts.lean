/-! PURE: lefts, rights, insides of an EVENT, alike; the check of an EVENT's number -/
theorem p_noEvent {n : Nat} {G : puG} {w : Nat → Int32} (hv : puVal n G) (hw : puMW n G w) {th ld : Int32} {one two sh : Nat → Int32} {x0 y0 d0 : Int64} {ex ey ed : Nat → Int64} {sz : Int32} {cr bu eo de fr to : Nat → Int32} {nc ne : Int32} (h : ld = 0 ∨ (ld = 1 ∧ puMLd n G ex ey ed sz cr bu eo de fr to nc ne)) {i : Int} (i1 : -2147483648 ≤ i) (i2 : i ≤ 2147483647) :
    ∃ v, puML19 n G v ∧ fX11_noEvent th w ld one two sh x0 y0 d0 ex ey ed sz cr bu eo de fr to nc ne (puI i) = some (puB (¬ (0 ≤ i ∧ i < ((puCan n G).1 : Int))), puE (¬ (0 ≤ i ∧ i < ((puCan n G).1 : Int))) 1 0, v) := by
  obtain ⟨v, ev, hv'⟩ := p_lays hv hw h (one := one) (two := two) (sh := sh) (x0 := x0) (y0 := y0) (d0 := d0)
  refine ⟨v, hv', ?_⟩
  obtain ⟨v1, ⟨-, vN⟩, ⟨-, vc⟩, -⟩ := hv'
  unfold fX11_noEvent
  rw [xsBd_some ev, vc, puI_l i1 i2, show (1 : Int32) = puI 1 by rfl, puI_sub, puI_l (by omega) (by omega), show (0 : Int64) = puJ 0 by rfl, p_in (by omega) (by omega) (by omega), show puI 1 = (1 : Int32) by rfl]
  simp only [xsBd_sm, puB_0, xsBr_10, fX11_noEvent_J31]
  rw [p_throwsIf, xsBd_sm, xsCk_pos (puB_xsB _)]
  have e : (¬ (0 ≤ i ∧ i ≤ ((puCan n G).1 : Int) - 1)) ↔ ¬ (0 ≤ i ∧ i < ((puCan n G).1 : Int)) := by omega
  rw [puB_iff e, puE_iff e]
theorem puIx_iff {n : Nat} {G : puG} (h : puOkP n G) {s k : Nat} (hs : s < n) (hk : k < (puCan n G).1) : (puIx (puCan n G).1 (puCan n G).2 (puA (G s)) = k ↔ (puCan n G).2 k = puA (G s)) ∧ (puIx (puCan n G).1 (puCan n G).2 (puZ (G s)) = k ↔ (puCan n G).2 k = puZ (G s)) := by
  obtain ⟨⟨a1, a2⟩, z1, z2⟩ := puEvt_A h.2 hs
  have inj : ∀ i j, i < (puCan n G).1 → j < (puCan n G).1 → (puCan n G).2 i = (puCan n G).2 j → i = j := by
    exact fun i j hi hj e => puSo_inj h.2.1 hi hj e
  exact ⟨⟨fun e => by rw [← e]; exact a2, fun e => inj _ _ a1 hk (a2.trans e.symm)⟩, fun e => by rw [← e]; exact z2, fun e => inj _ _ z1 hk (z2.trans e.symm)⟩
/-- lefts alike, rights alike -/
theorem p_lefts {n : Nat} {G : puG} (hv : puVal n G) (ho : puOkP n G) (hN : (puCan n G).1 ≤ 324) {le re : Nat → Int32} (hl : puEnd n G (puCan n G).1 (puCan n G).2 le re) {k : Nat} (hk : k < (puCan n G).1) : puOk (fX1_leftsIn le (puI (n : Int)) (puI (k : Int))) (fun r => puSt r (fun s => s < n ∧ (puCan n G).2 k = puA (G s))) := by
  obtain ⟨r, er, hr⟩ := p_endsIn hv.1 (f := le) (g := fun s => puIx (puCan n G).1 (puCan n G).2 (puA (G s))) (fun s hs => ⟨(hl s hs).1, by have := (puEvt_A ho.2 hs).1.1; omega⟩) (e := k) (by omega)
  unfold fX1_leftsIn
  rw [xsBd_some er]
  exact puOk_some (puSt_c hr (fun i _ => ⟨fun q => ⟨q.1, (puIx_iff ho q.1 hk).1.mp q.2⟩, fun q => ⟨q.1, (puIx_iff ho q.1 hk).1.mpr q.2⟩⟩))
theorem p_rights {n : Nat} {G : puG} (hv : puVal n G) (ho : puOkP n G) (hN : (puCan n G).1 ≤ 324) {le re : Nat → Int32} (hl : puEnd n G (puCan n G).1 (puCan n G).2 le re) {k : Nat} (hk : k < (puCan n G).1) : puOk (fX1_rightsIn re (puI (n : Int)) (puI (k : Int))) (fun r => puSt r (fun s => s < n ∧ (puCan n G).2 k = puZ (G s))) := by
  obtain ⟨r, er, hr⟩ := p_endsIn_v1 hv.1 (f := re) (g := fun s => puIx (puCan n G).1 (puCan n G).2 (puZ (G s))) (fun s hs => ⟨(hl s hs).2, by have := (puEvt_A ho.2 hs).2.1; omega⟩) (e := k) (by omega)
  unfold fX1_rightsIn
  rw [xsBd_some er]
  exact puOk_some (puSt_c hr (fun i _ => ⟨fun q => ⟨q.1, (puIx_iff ho q.1 hk).2.mp q.2⟩, fun q => ⟨q.1, (puIx_iff ho q.1 hk).2.mpr q.2⟩⟩))
