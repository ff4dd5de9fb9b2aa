/-! YEARS: places as bits -/
theorem c_places {cell : Nat → Int32} {F : Nat} (hF : F ≤ 8) (h : ∀ f, f < F → ∃ c, cell f = nI c ∧ c < 36) : zwp (f_X8_places cell (nI F)) (fun r => f_J13_bitCount_95d88 r = some (nI (plN cell F))) := by
  unfold f_X8_places
  refine zl_bind (P := fun k a => ∃ S, a = (lN S, nI k) ∧ S < 2 ^ 36 ∧ ∀ j, j < 36 → S.testBit j = anyB (fun f => cell f == nI j) k) (Post := fun b => f_J13_bitCount_95d88 b = some (nI (plN cell F))) F (by omega) ⟨0, rfl, by decide, fun j _ => Nat.zero_testBit j⟩ ?_ ?_ ?_
  · rintro k hk _ ⟨S, rfl, hS, hb⟩
    refine zi_f (nI_ge hk (by omega)) ?_
    obtain ⟨c, h1, h2⟩ := h k hk
    have hp := bit_put hS h2 hb
    rw [zbnd_nI (by omega) (by decide), nI_clamp (by omega), h1, hp.1]
    exact zwi ⟨_, by rw [nI_1], hp.2.1, fun j hj => by rw [hp.2.2 j hj, anyB_s, h1]⟩
  · rintro _ ⟨S, rfl, hS, hb⟩
    refine zi_t (nI_le (Nat.le_refl _) (by omega)) (zwi ?_)
    show f_J13_bitCount_95d88 (lN S) = _
    rw [l_bits36 hS, fb_ct_cong (fun j hj => hb j hj)]; rfl
  · intro b e; exact zwi e
