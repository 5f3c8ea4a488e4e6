/-! PURE: the SEGMENTS of a tint -/
theorem p_ofTint {n : Nat} {G : puG} {f : Nat → Int32} (hv : puVal n G) (hf : ∀ s, s < n → f s = puI (G s).2.2.2.2) {e : Int} (he : 0 ≤ e ∧ e ≤ 3) : puOk (fX7_ofTint f (puI (n : Int)) (puI e)) (fun r => puSt r (fun s => s < n ∧ (G s).2.2.2.2 = e)) := by
  have hn := hv.1
  have key : puOk (xsWh (fun s3 => fX7_ofTint_L4 f (puI (n : Int)) (puI e) s3.1 s3.2) ((0 : Int32), (0 : Int32))) (fun r => puSt r (fun s => s < n ∧ (G s).2.2.2.2 = e)) := by
    refine puFor1 n (fun k z => z.2 = puI (k : Int) ∧ puSt z.1 (fun s => s < k ∧ (G s).2.2.2.2 = e)) _ ⟨rfl, puSt_c puSt_0 (fun i _ => ⟨fun q => q.elim, fun q => absurd q.1 (by omega)⟩)⟩ ?_ ?_
    · rintro k ⟨b, c⟩ hk ⟨rfl, h⟩
      simp only at h
      have tb := (hv.2 k hk).2.1
      simp only [fX7_ofTint_L4]
      rw [xsBr_neg (by rw [puI_leN (by omega) (by omega)]; omega), xsCk_in (by omega) (by omega) (by omega), xsLt_eq, puI_clN (by omega), hf k hk]
      by_cases c : (G k).2.2.2.2 = e
      · rw [xsBr_pos (by rw [c]), xsBd_sm]
        simp only [fX7_ofTint_J28]
        rw [xsLt_eq, puI_s1]
        refine ⟨_, rfl, rfl, puSt_c (puSt_or h (puSt_1 (s := k) (by omega))) (fun i _ => ⟨?_, ?_⟩)⟩
        · rintro (q | rfl)
          · exact ⟨by omega, q.2⟩
          · exact ⟨by omega, c⟩
        · rintro ⟨q1, q2⟩
          by_cases e2 : i = k
          · exact Or.inr e2
          · exact Or.inl ⟨by omega, q2⟩
      · rw [xsBr_neg (by rw [puI_eq (by omega) (by omega) (by omega) (by omega)]; omega), xsBd_sm]
        simp only [fX7_ofTint_J28]
        rw [xsLt_eq, puI_s1]
        refine ⟨_, rfl, rfl, puSt_c h (fun i _ => ⟨fun q => ⟨by omega, q.2⟩, fun q => ⟨?_, q.2⟩⟩)⟩
        by_cases e2 : i = k
        · subst e2; exact absurd q.2 c
        · have := q.1; omega
    · rintro ⟨b, c⟩ ⟨rfl, h⟩
      simp only [fX7_ofTint_L4]
      rw [xsBr_pos (by rw [puI_leN (by omega) (by omega)]; omega)]
      exact ⟨_, rfl, h⟩
  obtain ⟨r, er, hr⟩ := key
  unfold fX7_ofTint
  rw [xsBd_some er]
  exact puOk_some hr
