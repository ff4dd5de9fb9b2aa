/-! READING LINES: figures and lights of the reference -/
theorem m_readsFigure {b tape row wayLong ways : Nat → Int32} {n p W H wl F : Nat} {l0 nx pl sg so va : Int32} {wd : Int64} (hn : n ≤ 700) (hp : p ≤ n) (htp : ∀ k, k < n → tape k = b k) (hF : F < 8) (hWH : W * H ≤ 36) (hr : ∀ c, c < 36 → row (33 + c) = b2 (wl.testBit c)) (hT : MTok b n p l0 nx pl sg so va wd) : zwp (f_X12_readsFigure 0 (-1) l0 (nI n) (nI F) row (nI H) wayLong ways (nI W) nx pl sg so tape va wd) (fun r => (¬ cfO b n p (W * H) wl = 0 → r.1 = nI (cfO b n p (W * H) wl) ∧ r.2.1 = nI p) ∧ (cfO b n p (W * H) wl = 0 → ∃ j, RowStop b n 4 (nxP b n p) j ∧ (¬ rowF b n (nxP b n p) j = 0 → r.1 = nI (rowF b n (nxP b n p) j) ∧ r.2.1 = nI (tn b n (nxP b n p) j)) ∧ (rowF b n (nxP b n p) j = 0 → r.1 = 0 ∧ r.2.1 = -1 ∧ r.2.2.2.1 = nI (F + 1) ∧ r.2.2.2.2.1 = upd row (1 + F) (nI (nvN b n p)) ∧ r.2.2.2.2.2.1 = upd wayLong F (nI j) ∧ (∀ i, i < j → r.2.2.2.2.2.2.1 (8 * F + i) = nI (nvN b n (tn b n (nxP b n p) i))) ∧ (∀ i, i < 8 * F ∨ 8 * F + 8 ≤ i → r.2.2.2.2.2.2.1 i = ways i) ∧ MTok b n (tn b n (nxP b n p) j) r.2.2.1 r.2.2.2.2.2.2.2.1 r.2.2.2.2.2.2.2.2.1 r.2.2.2.2.2.2.2.2.2.1 r.2.2.2.2.2.2.2.2.2.2.1 r.2.2.2.2.2.2.2.2.2.2.2.1 r.2.2.2.2.2.2.2.2.2.2.2.2))) := by
  unfold f_X12_readsFigure
  refine zi_bind (zwp_mono (m_cellHere hn hp hWH hr hT) ?_)
  rintro ⟨r3, o1, o2⟩ ⟨g1, g2⟩
  dsimp only at g1 g2 ⊢
  rw [show (1 : Int32) + nI F = nI (1 + F) by rw [show (1 : Int32) = nI 1 from rfl, nI_add], zbnd_nI (by omega) (by decide), nI_clamp (show 1 + F < 2 ^ 31 by omega)]
  by_cases h0 : cfO b n p (W * H) wl = 0
  · have g1' := g1 h0
    injection g1' with e1 e2
    injection e2 with e2 e3
    subst e1 e2 e3
    refine zi_beq (a := 1) rfl (zi_f (by decide) ?_)
    refine zi_bind (zwp_mono (m_gs hn hp htp hT.2.1) ?_)
    rintro ⟨o5, o6, o7, o8, o9, o10, o11⟩ hT2
    dsimp only at hT2 ⊢
    have hq := (nx_le (b := b) hp).2
    generalize nxP b n p = q at hT2 hq
    refine zl_bs (P := fun i a => i ≤ 8 ∧ a.1 = nI i ∧ a.2.1 = b2 (decide (i = 0) || decide (tK b n (tn b n q i) = 2)) ∧ a.2.2.1 = 0 ∧ a.2.2.2.1 = -1 ∧ (∀ j, j < i → tK b n (tn b n q j) = 2 ∧ nfO b n (tn b n q j) 0 4 = 0) ∧ (∀ j, j < i → a.2.2.2.2.2.1 (8 * F + j) = nI (nvN b n (tn b n q j))) ∧ (∀ j, j < 8 * F ∨ 8 * F + 8 ≤ j → a.2.2.2.2.2.1 j = ways j) ∧ MTok b n (tn b n q i) a.2.2.2.2.1 a.2.2.2.2.2.2.1 a.2.2.2.2.2.2.2.1 a.2.2.2.2.2.2.2.2.1 a.2.2.2.2.2.2.2.2.2.1 a.2.2.2.2.2.2.2.2.2.2.1 a.2.2.2.2.2.2.2.2.2.2.2) (Post := fun a => ∃ i, i ≤ 8 ∧ ¬ i = 0 ∧ ¬ tK b n (tn b n q i) = 2 ∧ a.1 = nI i ∧ a.2.1 = 0 ∧ a.2.2.1 = -1 ∧ (∀ j, j < i → tK b n (tn b n q j) = 2 ∧ nfO b n (tn b n q j) 0 4 = 0) ∧ (∀ j, j < i → a.2.2.2.2.1 (8 * F + j) = nI (nvN b n (tn b n q j))) ∧ (∀ j, j < 8 * F ∨ 8 * F + 8 ≤ j → a.2.2.2.2.1 j = ways j) ∧ MTok b n (tn b n q i) a.2.2.2.1 a.2.2.2.2.2.1 a.2.2.2.2.2.2.1 a.2.2.2.2.2.2.2.1 a.2.2.2.2.2.2.2.2.1 a.2.2.2.2.2.2.2.2.2.1 a.2.2.2.2.2.2.2.2.2.2) 8 (by decide) ⟨by omega, rfl, rfl, rfl, rfl, fun j hj => by omega, fun j hj => by omega, fun _ _ => rfl, hT2⟩ ?_ ?_ ?_
    · rintro i hi ⟨x12, x13, x15, x16, x17, x18, x19, x20, x21, x22, x23, x24⟩ ⟨q0, q1, q2, q3, q4, q5, q6, q7, hT3⟩
      dsimp only at q1 q2 q3 q4 q6 q7 hT3
      subst q1 q2 q3 q4
      obtain ⟨pl1, pl2⟩ := tn_le (b := b) hq i
      have hk := tK_le (b := b) (n := n) (p := tn b n q i)
      by_cases hmore : i = 0 ∨ tK b n (tn b n q i) = 2
      · rw [show (decide (i = 0) || decide (tK b n (tn b n q i) = 2)) = true by
          rcases hmore with h | h
          · rw [decide_eq_true h]; rfl
          · rw [decide_eq_true h, Bool.or_true]]
        refine zi_f (show ¬ b2 true = 0 by decide) ?_
        refine zi_beq (a := 1) rfl (zi_f (by decide) ?_)
        refine zi_bind (zi_f (nI_ne (b := 8) (by omega) (by decide) (by omega)) (zwi ?_))
        refine zi_bind (zwp_mono (m_number (lo := 0) (hi := 4) hn pl2 htp (by decide) (by decide) hT3) ?_)
        rintro ⟨r50, o41, o42, o43, o44, o45, o46, o47, o48, o49⟩ ⟨k1, k2⟩
        dsimp only at k1 k2 ⊢
        by_cases hz : nfO b n (tn b n q i) 0 4 = 0
        · obtain ⟨z1, z2, z3, hT4⟩ := k1 hz
          subst z1 z2 z3
          obtain ⟨f1, f2, f3, f4⟩ := nfO_0 hz
          refine zi_beq (a := 1) rfl (zi_f (by decide) ?_)
          rw [show (8 : Int32) = nI 8 from rfl, pk_mul, nI_add, zbnd_nI (by omega) (by decide), nI_clamp (show 8 * F + i < 2 ^ 31 by omega)]
          have hk4 := tK_le (b := b) (n := n) (p := tn b n q (i + 1))
          refine zi_bind (zwp_mono (Q := fun v => v = b2 (decide (i + 1 = 0) || decide (tK b n (tn b n q (i + 1)) = 2))) ?_ ?_)
          · rw [decide_eq_false (show ¬ i + 1 = 0 by omega), Bool.false_or]
            have hso : o47 = nI (tK b n (tn b n q (i + 1))) := hT4.2.2.2.2.1
            by_cases h2 : tK b n (tn b n q (i + 1)) = 2
            · rw [decide_eq_true h2]; exact zi_t (by rw [hso, h2]; rfl) (zwi rfl)
            · rw [decide_eq_false h2]; exact zi_f (by rw [hso]; exact nI_ne (b := 2) (by omega) (by decide) h2) (zwi rfl)
          rintro _ rfl
          refine zwi ⟨by omega, by rw [nI_1], rfl, rfl, rfl, fun j hj => ?_, fun j hj => ?_, fun j hj => ?_, hT4⟩
          · by_cases e : j = i
            · rw [e]; exact ⟨f1, hz⟩
            · exact q5 j (by omega)
          · show upd x18 (8 * F + i) _ (8 * F + j) = _
            by_cases e : j = i
            · rw [e, pk_us]
            · rw [pk_un (by omega)]; exact q6 j (by omega)
          · show upd x18 (8 * F + i) _ j = _
            rw [pk_un (by omega)]; exact q7 j hj
        · obtain ⟨z1, z2⟩ := k2 hz
          subst z1 z2
          have hle := nfO_le (b := b) (n := n) (p := tn b n q i) (lo := 0) (hi := 4)
          refine zi_beq (a := 0) ?_ (zi_t rfl (zwi ?_))
          · unfold f_X12_isGood
            rw [if_neg (fun e => hz ((nI_z0 (by omega)).mp e))]
          · have hrf : rowF b n q i = nfO b n (tn b n q i) 0 4 := by
              unfold rowF
              by_cases h2 : tK b n (tn b n q i) = 2
              · rw [if_pos h2, nfO_2 h2 hz]
              · rw [if_neg h2, if_pos (hmore.resolve_right h2), nfO_1 h2]
            exact ⟨fun q => absurd h0 q, fun _ => ⟨i, ⟨by omega, q5, fun _ => .inr hz⟩, fun _ => ⟨by rw [hrf], rfl⟩, fun q => by rw [hrf] at q; exact absurd q hz⟩⟩
      · rw [show (decide (i = 0) || decide (tK b n (tn b n q i) = 2)) = false by rw [decide_eq_false (fun h => hmore (.inl h)), decide_eq_false (fun h => hmore (.inr h))]; rfl]
        exact zi_t rfl (zwi ⟨i, q0, fun h => hmore (.inl h), fun h => hmore (.inr h), rfl, rfl, rfl, q5, q6, q7, hT3⟩)
    · rintro ⟨x12, x13, x15, x16, x17, x18, x19, x20, x21, x22, x23, x24⟩ ⟨q0, q1, q2, q3, q4, q5, q6, q7, hT3⟩
      dsimp only at q1 q2 q3 q4 q6 q7 hT3
      subst q1 q2 q3 q4
      have hk := tK_le (b := b) (n := n) (p := tn b n q 8)
      by_cases h2 : tK b n (tn b n q 8) = 2
      · rw [decide_eq_true h2, Bool.or_true]
        refine zi_f (show ¬ b2 true = 0 by decide) ?_
        refine zi_beq (a := 1) rfl (zi_f (by decide) ?_)
        refine zi_bind (zi_t (show nI 8 = 8 from rfl) (zi_t (by rw [hT3.2.2.2.2.1, h2]; rfl) (zi_beq m_wrong0 (zwi ?_))))
        unfold f_X12_number
        refine zi_bind (zi_beq (a := 0) rfl (zi_t rfl (zwi ?_)))
        refine zi_beq (a := 0) rfl (zi_t rfl (zwi ?_))
        have hrf : rowF b n q 8 = 2 := by unfold rowF; rw [if_pos h2]
        exact ⟨fun q => absurd h0 q, fun _ => ⟨8, ⟨by omega, q5, fun _ => .inl rfl⟩, fun _ => ⟨by rw [hrf]; rfl, hT3.2.2.1⟩, fun q => by rw [hrf] at q; cases q⟩⟩
      · rw [decide_eq_false h2, Bool.or_false]
        exact zi_t rfl (zwi ⟨8, q0, by omega, h2, rfl, rfl, rfl, q5, q6, q7, hT3⟩)
    · rintro ⟨y25, y28, y29, y30, y31, y32, y33, y34, y35, y36, y37⟩ ⟨i, q0, qi, q2, q1, q3, q4, q5, q6, q7, hT3⟩
      dsimp only at q1 q3 q4 q6 q7 hT3 ⊢
      subst q1 q3 q4
      rw [zbnd_nI (by omega) (by decide), nI_clamp (show F < 2 ^ 31 by omega)]
      have hrf : rowF b n q i = 0 := by unfold rowF; rw [if_neg q2, if_neg qi]
      exact zwi ⟨fun q => absurd h0 q, fun _ => ⟨i, ⟨by omega, q5, fun h => absurd h q2⟩, fun q => absurd hrf q, fun _ => ⟨rfl, rfl, by rw [nI_1], rfl, rfl, q6, q7, hT3⟩⟩⟩
  · obtain ⟨g3, g4⟩ := g2 h0
    have hle := cfO_le (b := b) (n := n) (p := p) (WH := W * H) (wl := wl)
    refine zi_beq (a := 0) ?_ (zi_t rfl (zwi ⟨fun _ => ⟨g3, g4⟩, fun q => absurd q h0⟩))
    unfold f_X12_isGood
    rw [if_neg (fun q => h0 (by rw [g3] at q; exact (nI_z0 (by omega)).mp q))]
theorem m_readsLight {b tape light : Nat → Int32} {n q : Nat} {l0 nx pl sg so va ll : Int32} {wd : Int64} (hn : n ≤ 700) (hq : q ≤ n) (htp : ∀ k, k < n → tape k = b k) (hT2 : MTok b n q l0 nx pl sg so va wd) : zwp (f_X12_readsLight 0 (-1) l0 (nI n) light ll nx pl sg so tape va wd) (fun r => ∃ j, RowStop b n 9 q j ∧ (¬ rowF b n q j = 0 → r.1 = nI (rowF b n q j) ∧ r.2.1 = nI (tn b n q j)) ∧ (rowF b n q j = 0 → r.1 = 0 ∧ r.2.1 = -1 ∧ r.2.2.2.2.1 = nI j ∧ (∀ i, i < j → r.2.2.2.1 i = nI (nvN b n (tn b n q i))) ∧ MTok b n (tn b n q j) r.2.2.1 r.2.2.2.2.2.1 r.2.2.2.2.2.2.1 r.2.2.2.2.2.2.2.1 r.2.2.2.2.2.2.2.2.1 r.2.2.2.2.2.2.2.2.2.1 r.2.2.2.2.2.2.2.2.2.2)) := by
  unfold f_X12_readsLight
  refine zl_bs (P := fun i a => i ≤ 8 ∧ a.2.2.2.2.2.1 = nI i ∧ a.1 = b2 (decide (i = 0) || decide (tK b n (tn b n q i) = 2)) ∧ a.2.1 = 0 ∧ a.2.2.1 = -1 ∧ (∀ j, j < i → tK b n (tn b n q j) = 2 ∧ nfO b n (tn b n q j) 0 9 = 0) ∧ (∀ j, j < i → a.2.2.2.2.1 j = nI (nvN b n (tn b n q j))) ∧ MTok b n (tn b n q i) a.2.2.2.1 a.2.2.2.2.2.2.1 a.2.2.2.2.2.2.2.1 a.2.2.2.2.2.2.2.2.1 a.2.2.2.2.2.2.2.2.2.1 a.2.2.2.2.2.2.2.2.2.2.1 a.2.2.2.2.2.2.2.2.2.2.2) (Post := fun a => ∃ i, i ≤ 8 ∧ ¬ i = 0 ∧ ¬ tK b n (tn b n q i) = 2 ∧ a.2.2.2.2.1 = nI i ∧ a.1 = 0 ∧ a.2.1 = -1 ∧ (∀ j, j < i → tK b n (tn b n q j) = 2 ∧ nfO b n (tn b n q j) 0 9 = 0) ∧ (∀ j, j < i → a.2.2.2.1 j = nI (nvN b n (tn b n q j))) ∧ MTok b n (tn b n q i) a.2.2.1 a.2.2.2.2.2.1 a.2.2.2.2.2.2.1 a.2.2.2.2.2.2.2.1 a.2.2.2.2.2.2.2.2.1 a.2.2.2.2.2.2.2.2.2.1 a.2.2.2.2.2.2.2.2.2.2) 8 (by decide) ⟨by omega, rfl, rfl, rfl, rfl, fun j hj => by omega, fun j hj => by omega, hT2⟩ ?_ ?_ ?_
  · rintro i hi ⟨x1, x3, x4, x5, x6, x7, x8, x9, x10, x11, x12, x13⟩ ⟨q0, q1, q2, q3, q4, q5, q6, hT3⟩
    dsimp only at q1 q2 q3 q4 q6 hT3
    subst q1 q2 q3 q4
    obtain ⟨pl1, pl2⟩ := tn_le (b := b) hq i
    have hk := tK_le (b := b) (n := n) (p := tn b n q i)
    by_cases hmore : i = 0 ∨ tK b n (tn b n q i) = 2
    · rw [show (decide (i = 0) || decide (tK b n (tn b n q i) = 2)) = true by
        rcases hmore with h | h
        · rw [decide_eq_true h]; rfl
        · rw [decide_eq_true h, Bool.or_true]]
      refine zi_f (show ¬ b2 true = 0 by decide) ?_
      refine zi_beq (a := 1) rfl (zi_f (by decide) ?_)
      refine zi_bind (zi_f (nI_ne (b := 8) (by omega) (by decide) (by omega)) (zwi ?_))
      refine zi_bind (zwp_mono (m_number (lo := 0) (hi := 9) hn pl2 htp (by decide) (by decide) hT3) ?_)
      rintro ⟨r39, o30, o31, o32, o33, o34, o35, o36, o37, o38⟩ ⟨k1, k2⟩
      dsimp only at k1 k2 ⊢
      by_cases hz : nfO b n (tn b n q i) 0 9 = 0
      · obtain ⟨z1, z2, z3, hT4⟩ := k1 hz
        subst z1 z2 z3
        obtain ⟨f1, f2, f3, f4⟩ := nfO_0 hz
        refine zi_beq (a := 1) rfl (zi_f (by decide) ?_)
        rw [zbnd_nI (by omega) (by decide), nI_clamp (show i < 2 ^ 31 by omega)]
        have hk4 := tK_le (b := b) (n := n) (p := tn b n q (i + 1))
        refine zi_bind (zwp_mono (Q := fun v => v = b2 (decide (i + 1 = 0) || decide (tK b n (tn b n q (i + 1)) = 2))) ?_ ?_)
        · rw [decide_eq_false (show ¬ i + 1 = 0 by omega), Bool.false_or]
          have hso : o36 = nI (tK b n (tn b n q (i + 1))) := hT4.2.2.2.2.1
          by_cases h2 : tK b n (tn b n q (i + 1)) = 2
          · rw [decide_eq_true h2]; exact zi_t (by rw [hso, h2]; rfl) (zwi rfl)
          · rw [decide_eq_false h2]; exact zi_f (by rw [hso]; exact nI_ne (b := 2) (by omega) (by decide) h2) (zwi rfl)
        rintro _ rfl
        refine zwi ⟨by omega, by rw [nI_1], rfl, rfl, rfl, fun j hj => ?_, fun j hj => ?_, hT4⟩
        · by_cases e : j = i
          · rw [e]; exact ⟨f1, hz⟩
          · exact q5 j (by omega)
        · show upd x6 i _ j = _
          by_cases e : j = i
          · rw [e, pk_us]
          · rw [pk_un (by omega)]; exact q6 j (by omega)
      · obtain ⟨z1, z2⟩ := k2 hz
        subst z1 z2
        have hle := nfO_le (b := b) (n := n) (p := tn b n q i) (lo := 0) (hi := 9)
        refine zi_beq (a := 0) ?_ (zi_t rfl (zwi ?_))
        · unfold f_X12_isGood
          rw [if_neg (fun e => hz ((nI_z0 (by omega)).mp e))]
        · have hrf : rowF b n q i = nfO b n (tn b n q i) 0 9 := by
            unfold rowF
            by_cases h2 : tK b n (tn b n q i) = 2
            · rw [if_pos h2, nfO_2 h2 hz]
            · rw [if_neg h2, if_pos (hmore.resolve_right h2), nfO_1 h2]
          exact ⟨i, ⟨by omega, q5, fun _ => .inr hz⟩, fun _ => ⟨by rw [hrf], rfl⟩, fun q => by rw [hrf] at q; exact absurd q hz⟩
    · rw [show (decide (i = 0) || decide (tK b n (tn b n q i) = 2)) = false by rw [decide_eq_false (fun h => hmore (.inl h)), decide_eq_false (fun h => hmore (.inr h))]; rfl]
      exact zi_t rfl (zwi ⟨i, q0, fun h => hmore (.inl h), fun h => hmore (.inr h), rfl, rfl, rfl, q5, q6, hT3⟩)
  · rintro ⟨x1, x3, x4, x5, x6, x7, x8, x9, x10, x11, x12, x13⟩ ⟨q0, q1, q2, q3, q4, q5, q6, hT3⟩
    dsimp only at q1 q2 q3 q4 q6 hT3
    subst q1 q2 q3 q4
    have hk := tK_le (b := b) (n := n) (p := tn b n q 8)
    by_cases h2 : tK b n (tn b n q 8) = 2
    · rw [decide_eq_true h2, Bool.or_true]
      refine zi_f (show ¬ b2 true = 0 by decide) ?_
      refine zi_beq (a := 1) rfl (zi_f (by decide) ?_)
      refine zi_bind (zi_t (show nI 8 = 8 from rfl) (zi_t (by rw [hT3.2.2.2.2.1, h2]; rfl) (zi_beq m_wrong0 (zwi ?_))))
      unfold f_X12_number
      refine zi_bind (zi_beq (a := 0) rfl (zi_t rfl (zwi ?_)))
      refine zi_beq (a := 0) rfl (zi_t rfl (zwi ?_))
      have hrf : rowF b n q 8 = 2 := by unfold rowF; rw [if_pos h2]
      exact ⟨8, ⟨by omega, q5, fun _ => .inl rfl⟩, fun _ => ⟨by rw [hrf]; rfl, hT3.2.2.1⟩, fun q => by rw [hrf] at q; cases q⟩
    · rw [decide_eq_false h2, Bool.or_false]
      exact zi_t rfl (zwi ⟨8, q0, by omega, h2, rfl, rfl, rfl, q5, q6, hT3⟩)
  · rintro ⟨y16, y17, y18, y19, y20, y21, y22, y23, y24, y25, y26⟩ ⟨i, q0, qi, q2, q1, q3, q4, q5, q6, hT3⟩
    dsimp only at q1 q3 q4 q6 hT3 ⊢
    have hrf : rowF b n q i = 0 := by unfold rowF; rw [if_neg q2, if_neg qi]
    exact zwi ⟨i, ⟨by omega, q5, fun h => absurd h q2⟩, fun q => absurd hrf q, fun _ => ⟨q3, q4, q1, q6, hT3⟩⟩
