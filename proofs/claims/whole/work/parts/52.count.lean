/-! COUNT -/
def sSum (v : Nat → Int32) : Nat → Int32
  | 0 => 0
  | k + 1 => sSum v k + v k
theorem sSum_cg {v w : Nat → Int32} : ∀ {n : Nat}, (∀ k, k < n → v k = w k) → sSum v n = sSum w n
  | 0, _ => rfl
  | n + 1, h => by unfold sSum; rw [sSum_cg (fun k hk => h k (by omega)), h n (by omega)]
theorem sSum_ct {p : Nat → Bool} : ∀ n, sSum (fun k => b2 (p k)) n = nI (fb_ct p n)
  | 0 => rfl
  | n + 1 => by
    unfold sSum
    rw [sSum_ct n, fb_ct_succ]
    cases p n with
    | true => rw [show b2 true = 1 from rfl, nI_1]; rfl
    | false => rw [show b2 false = nI 0 from rfl, nI_add]; rfl
theorem c_soreOfAll {F : Nat} {sore : Nat → Int32} (hF : F ≤ 8) : f_X8_soreOfAll (nI F) sore = some (sSum sore F) := by
  unfold f_X8_soreOfAll
  refine (zl_run (s := fun k => (sSum sore k, nI k)) (b := sSum sore F) F (by omega) rfl ?_ ?_).trans rfl
  · intro k hk
    show (if nI F ≤ nI k then _ else _) = _
    rw [if_neg (nI_ge hk (by omega)), zbnd_nI (by omega) (by decide), nI_clamp (by omega), nI_1]; rfl
  · show (if nI F ≤ nI F then _ else _) = _
    rw [if_pos (nI_le (Nat.le_refl _) (by omega))]
theorem m_sumOf {a b n : Nat} {rows : Nat → Int32} (h : a + b + n ≤ 140) : f_X12_sumOf (nI a) (nI b) (nI n) rows = some (sSum (fun k => rows (a + b + k)) n) := by
  unfold f_X12_sumOf
  refine (zl_run (s := fun k => (sSum (fun k => rows (a + b + k)) k, nI k)) (b := sSum (fun k => rows (a + b + k)) n) n (by omega) rfl ?_ ?_).trans rfl
  · intro k hk
    show (if nI n ≤ nI k then _ else _) = _
    rw [if_neg (nI_ge hk (by omega)), nI_add, nI_add, zbnd_nI (by omega) (by decide), nI_clamp (by omega), nI_1]; rfl
  · show (if nI n ≤ nI n then _ else _) = _
    rw [if_pos (nI_le (Nat.le_refl _) (by omega))]
def hB (held : Nat → Int32) (f : Nat) : Bool := !decide (held f ≤ 0)
theorem c_heldBits {F : Nat} {held : Nat → Int32} (hF : F ≤ 8) : f_X8_heldBits (nI F) held = some (nI (bts (hB held) F)) := by
  unfold f_X8_heldBits
  refine (zl_run (s := fun k => (nI (bts (hB held) k), nI k)) (b := nI (bts (hB held) F)) F (by omega) rfl ?_ ?_).trans rfl
  · intro k hk
    show (if nI F ≤ nI k then _ else _) = _
    rw [if_neg (nI_ge hk (by omega)), zbnd_nI (by omega) (by decide), nI_clamp (by omega)]
    by_cases h : held k ≤ 0
    · rw [if_pos h, nI_1, ← bts_stay (p := hB held) (k := k) (by unfold hB; rw [decide_eq_true h]; rfl)]
    · rw [if_neg h, bts_step (by omega) (by unfold hB; rw [decide_eq_false h]; rfl), nI_1]
  · show (if nI F ≤ nI F then _ else _) = _
    rw [if_pos (nI_le (Nat.le_refl _) (by omega))]
theorem hB_cg {u v : Nat → Int32} {f : Nat} (h : u f = v f) : hB u f = hB v f := by unfold hB; rw [h]
theorem bts_cg {p q : Nat → Bool} : ∀ {n : Nat}, (∀ k, k < n → p k = q k) → bts p n = bts q n
  | 0, _ => rfl
  | n + 1, h => by unfold bts; rw [bts_cg (fun k hk => h k (by omega)), h n (by omega)]
theorem m_heldOnes {F : Nat} {rows : Nat → Int32} (hF : F ≤ 8) : f_X12_heldOnes (nI F) rows = some (nI (bts (hB (fun f => rows (0 + 17 + f))) F)) := by
  unfold f_X12_heldOnes
  refine (zl_run (s := fun k => (nI (bts (hB (fun f => rows (0 + 17 + f))) k), nI k)) (b := nI (bts (hB (fun f => rows (0 + 17 + f))) F)) F (by omega) rfl ?_ ?_).trans rfl
  · intro k hk
    show (if nI F ≤ nI k then _ else _) = _
    rw [if_neg (nI_ge hk (by omega)), show (17 : Int32) + nI k = nI (0 + 17 + k) by rw [show (17 : Int32) = nI 17 from rfl, nI_add, Nat.zero_add], zbnd_nI (by omega) (by decide), nI_clamp (by omega)]
    by_cases h : rows (0 + 17 + k) ≤ 0
    · rw [if_pos h]
      show some (Sum.inl (nI (bts (hB (fun f => rows (0 + 17 + f))) k) ||| (0 : Int32), nI k + 1)) = _
      rw [nI_1, bts_stay (by unfold hB; rw [decide_eq_true h]; rfl), show (0 : Int32) = nI 0 from rfl, fa_or, Nat.or_zero]
    · rw [if_neg h]
      show some (Sum.inl (nI (bts (hB (fun f => rows (0 + 17 + f))) k) ||| ((1 : Int32) <<< (nI k &&& 31)), nI k + 1)) = _
      rw [bts_step (by omega) (by unfold hB; rw [decide_eq_false h]; rfl), nI_1]
  · show (if nI F ≤ nI F then _ else _) = _
    rw [if_pos (nI_le (Nat.le_refl _) (by omega))]
theorem l_bits36 {x : Nat} (hx : x < 2 ^ 36) : f_J13_bitCount_95d88 (lN x) = some (nI (fb_ct x.testBit 36)) := by
  have hz : fb_ct (fun k => x.testBit (36 + k)) 4 = 0 := fb_ct_zero.mpr (fun k hk => Nat.testBit_lt_two_pow (Nat.lt_of_lt_of_le hx (Nat.pow_le_pow_right (by decide) (by omega))))
  rw [l_bits (by omega), show 40 = 36 + 4 from rfl, fb_ct_split, hz, Nat.add_zero]
theorem c_count {P : Pl} (hP : plOk P) {hr pn wl ns na nn : Nat} {tsz : Int32} {ncell nsore nheld nlead rows refd : Nat → Int32} (hN : NowR P hr pn wl ncell nsore nheld nlead rows) {fr qu : Nat → Int32} {a1 : Int32} : zwp (f_X11_count a1 (nI na) (nI nn) (nI (qF P)) nheld (nI hr) (nI pn) nsore (lN wl) (qDb P) (nI (qF P)) (nI (qH P)) (qLt P) (nI (qNl P)) (nI ns) (nI (qW P)) refd tsz fr qu) (fun r => r.1 = toN (cond (okN (17 + 1) a1) (some (if a1 = 0 then nI (qF P) else (if a1 = 1 then nI ns else (if a1 = 2 then nI (qW P) else (if a1 = 3 then nI (qH P) else (if a1 = 4 then nI hr else (if a1 = 5 then sLight P hr else (if a1 = 6 then b2 (sDull P hr) else (if a1 = 7 then nI pn else (if a1 = 8 then nI (fb_ct wl.testBit 36) else (if a1 = 9 then nI (sParts (qW P) (qH P) wl) else (if a1 = 10 then sSum nsore (qF P) else (if a1 = 11 then nI (bts (hB nheld) (qF P)) else (if a1 = 12 then nI na else (if a1 = 13 then nI nn else (if a1 = 14 then tsz else (if a1 = 15 then refd 0 else (if a1 = 16 then refd 1 else refd 2)))))))))))))))))) none)) := by
  have hF := hP.2.2.2.2.1
  have hWH := hP.wh
  have hr9 := hN.2.2.1
  have hl := hP.2.2.2.2.2.1
  unfold f_X11_count
  cases hc1 : okN (17 + 1) a1 with
  | false =>
    have hno : ¬ ((0 : Int) ≤ a1.toInt ∧ a1.toInt < (17 + 1 : Nat)) := of_decide_eq_false hc1
    have ne : ∀ k : Nat, k < 18 → ¬ a1 = nI k := fun k hk e => hno (by rw [e, nI_toInt (by omega)]; omega)
    exact zi_f (ne 0 (by decide)) (zi_f (ne 1 (by decide)) (zi_f (ne 2 (by decide)) (zi_f (ne 3 (by decide)) (zi_f (ne 4 (by decide)) (zi_f (ne 5 (by decide)) (zi_f (ne 6 (by decide)) (zi_f (ne 7 (by decide)) (zi_f (ne 8 (by decide)) (zi_f (ne 9 (by decide)) (zi_f (ne 10 (by decide)) (zi_f (ne 11 (by decide)) (zi_f (ne 12 (by decide)) (zi_f (ne 13 (by decide)) (zi_f (ne 14 (by decide)) (zi_f (ne 15 (by decide)) (zi_f (ne 16 (by decide)) (zi_f (ne 17 (by decide)) (zwi rfl))))))))))))))))))
  | true =>
    obtain ⟨k, hk, rfl⟩ := okN_t hc1
    have hcase : k = 0 ∨ k = 1 ∨ k = 2 ∨ k = 3 ∨ k = 4 ∨ k = 5 ∨ k = 6 ∨ k = 7 ∨ k = 8 ∨ k = 9 ∨ k = 10 ∨ k = 11 ∨ k = 12 ∨ k = 13 ∨ k = 14 ∨ k = 15 ∨ k = 16 ∨ k = 17 := by omega
    rcases hcase with rfl | rfl | rfl | rfl | rfl | rfl | rfl | rfl | rfl | rfl | rfl | rfl | rfl | rfl | rfl | rfl | rfl | rfl
    · exact zi_t rfl (zwi rfl)
    · exact zi_f (by decide) (zi_t rfl (zwi rfl))
    · exact zi_f (by decide) (zi_f (by decide) (zi_t rfl (zwi rfl)))
    · exact zi_f (by decide) (zi_f (by decide) (zi_f (by decide) (zi_t rfl (zwi rfl))))
    · exact zi_f (by decide) (zi_f (by decide) (zi_f (by decide) (zi_f (by decide) (zi_t rfl (zwi rfl)))))
    · exact zi_f (by decide) (zi_f (by decide) (zi_f (by decide) (zi_f (by decide) (zi_f (by decide) (zi_t rfl (zi_beq (c_lightOf hl (by omega)) (zwi rfl)))))))
    · refine zi_f (by decide) (zi_f (by decide) (zi_f (by decide) (zi_f (by decide) (zi_f (by decide) (zi_f (by decide) (zi_t rfl (zi_beq (c_isDull hl (by omega)) ?_)))))))
      cases hd : sDull P hr with
      | false => exact zi_t rfl (zwi rfl)
      | true => exact zi_f (by decide) (zwi rfl)
    · exact zi_f (by decide) (zi_f (by decide) (zi_f (by decide) (zi_f (by decide) (zi_f (by decide) (zi_f (by decide) (zi_f (by decide) (zi_t rfl (zwi rfl))))))))
    · exact zi_f (by decide) (zi_f (by decide) (zi_f (by decide) (zi_f (by decide) (zi_f (by decide) (zi_f (by decide) (zi_f (by decide) (zi_f (by decide) (zi_t rfl (zi_beq (l_bits36 (hN.wl36 hP)) (zwi rfl))))))))))
    · refine zi_f (by decide) (zi_f (by decide) (zi_f (by decide) (zi_f (by decide) (zi_f (by decide) (zi_f (by decide) (zi_f (by decide) (zi_f (by decide) (zi_f (by decide) (zi_t rfl (zi_bind (zwp_mono (c_parts hP.1 hP.2.1 hP.2.2.2.1 hWH (hN.wl36 hP)) ?_)))))))))))
      rintro ⟨x1, x2, x3⟩ e
      dsimp only at e
      exact zwi (by rw [e]; rfl)
    · exact zi_f (by decide) (zi_f (by decide) (zi_f (by decide) (zi_f (by decide) (zi_f (by decide) (zi_f (by decide) (zi_f (by decide) (zi_f (by decide) (zi_f (by decide) (zi_f (by decide) (zi_t rfl (zi_beq (c_soreOfAll hF) (zwi rfl))))))))))))
    · exact zi_f (by decide) (zi_f (by decide) (zi_f (by decide) (zi_f (by decide) (zi_f (by decide) (zi_f (by decide) (zi_f (by decide) (zi_f (by decide) (zi_f (by decide) (zi_f (by decide) (zi_f (by decide) (zi_t rfl (zi_beq (c_heldBits hF) (zwi rfl)))))))))))))
    · exact zi_f (by decide) (zi_f (by decide) (zi_f (by decide) (zi_f (by decide) (zi_f (by decide) (zi_f (by decide) (zi_f (by decide) (zi_f (by decide) (zi_f (by decide) (zi_f (by decide) (zi_f (by decide) (zi_f (by decide) (zi_t rfl (zwi rfl)))))))))))))
    · exact zi_f (by decide) (zi_f (by decide) (zi_f (by decide) (zi_f (by decide) (zi_f (by decide) (zi_f (by decide) (zi_f (by decide) (zi_f (by decide) (zi_f (by decide) (zi_f (by decide) (zi_f (by decide) (zi_f (by decide) (zi_f (by decide) (zi_t rfl (zwi rfl))))))))))))))
    · exact zi_f (by decide) (zi_f (by decide) (zi_f (by decide) (zi_f (by decide) (zi_f (by decide) (zi_f (by decide) (zi_f (by decide) (zi_f (by decide) (zi_f (by decide) (zi_f (by decide) (zi_f (by decide) (zi_f (by decide) (zi_f (by decide) (zi_f (by decide) (zi_t rfl (zwi rfl)))))))))))))))
    · exact zi_f (by decide) (zi_f (by decide) (zi_f (by decide) (zi_f (by decide) (zi_f (by decide) (zi_f (by decide) (zi_f (by decide) (zi_f (by decide) (zi_f (by decide) (zi_f (by decide) (zi_f (by decide) (zi_f (by decide) (zi_f (by decide) (zi_f (by decide) (zi_f (by decide) (zi_t rfl (zwi rfl))))))))))))))))
    · exact zi_f (by decide) (zi_f (by decide) (zi_f (by decide) (zi_f (by decide) (zi_f (by decide) (zi_f (by decide) (zi_f (by decide) (zi_f (by decide) (zi_f (by decide) (zi_f (by decide) (zi_f (by decide) (zi_f (by decide) (zi_f (by decide) (zi_f (by decide) (zi_f (by decide) (zi_f (by decide) (zi_t rfl (zwi rfl)))))))))))))))))
    · exact zi_f (by decide) (zi_f (by decide) (zi_f (by decide) (zi_f (by decide) (zi_f (by decide) (zi_f (by decide) (zi_f (by decide) (zi_f (by decide) (zi_f (by decide) (zi_f (by decide) (zi_f (by decide) (zi_f (by decide) (zi_f (by decide) (zi_f (by decide) (zi_f (by decide) (zi_f (by decide) (zi_f (by decide) (zi_t rfl (zwi rfl))))))))))))))))))
theorem m_count {P : Pl} (hP : plOk P) {hr pn wl ns na nn : Nat} {tsz : Int32} {ncell nsore nheld nlead rows refd : Nat → Int32} (hN : NowR P hr pn wl ncell nsore nheld nlead rows) {mthr : Int32} {fr qu mwl mways mlight mcode mrefd : Nat → Int32} {mga mha : Int32} (hm : mPl P mwl mways mlight mcode mga mha) (hQ : ∀ k, k < 3 → refd k = mrefd k) {a1 : Int32} : zwp (f_X12_count a1 (nI na) (qDb P) (-1 : Int32) fr (nI (qF P)) mlight (nI (qNl P)) (nI nn) qu mrefd rows (nI ns) (nI (qH P)) tsz mthr (nI (qW P))) (fun r => r.1 = toW (cond (okN (17 + 1) a1) (some (if a1 = 0 then nI (qF P) else (if a1 = 1 then nI ns else (if a1 = 2 then nI (qW P) else (if a1 = 3 then nI (qH P) else (if a1 = 4 then nI hr else (if a1 = 5 then sLight P hr else (if a1 = 6 then b2 (sDull P hr) else (if a1 = 7 then nI pn else (if a1 = 8 then nI (fb_ct wl.testBit 36) else (if a1 = 9 then nI (sParts (qW P) (qH P) wl) else (if a1 = 10 then sSum nsore (qF P) else (if a1 = 11 then nI (bts (hB nheld) (qF P)) else (if a1 = 12 then nI na else (if a1 = 13 then nI nn else (if a1 = 14 then tsz else (if a1 = 15 then refd 0 else (if a1 = 16 then refd 1 else refd 2)))))))))))))))))) none) ∧ r.2.2.2 = toU (cond (okN (17 + 1) a1) (some (if a1 = 0 then nI (qF P) else (if a1 = 1 then nI ns else (if a1 = 2 then nI (qW P) else (if a1 = 3 then nI (qH P) else (if a1 = 4 then nI hr else (if a1 = 5 then sLight P hr else (if a1 = 6 then b2 (sDull P hr) else (if a1 = 7 then nI pn else (if a1 = 8 then nI (fb_ct wl.testBit 36) else (if a1 = 9 then nI (sParts (qW P) (qH P) wl) else (if a1 = 10 then sSum nsore (qF P) else (if a1 = 11 then nI (bts (hB nheld) (qF P)) else (if a1 = 12 then nI na else (if a1 = 13 then nI nn else (if a1 = 14 then tsz else (if a1 = 15 then refd 0 else (if a1 = 16 then refd 1 else refd 2)))))))))))))))))) none)) := by
  have hF := hP.2.2.2.2.1
  have hWH := hP.wh
  have hr9 := hN.2.2.1
  have hl := hP.2.2.2.2.2.1
  obtain ⟨r0, r1, r2, r3, r4, r5⟩ := hN.1
  have r69 := hN.2.1
  unfold f_X12_count
  refine zi_beq (m_within (lo := 0) (hi := 17) (by decide) (by decide)) ?_
  refine zi_beq (m_right0 (by decide)) ?_
  rw [inR_okN]
  cases hc1 : okN (17 + 1) a1 with
  | false => exact zi_t rfl (zwi ⟨rfl, rfl⟩)
  | true =>
    refine zi_f (by decide) ?_
    obtain ⟨k, hk, rfl⟩ := okN_t hc1
    have hcase : k = 0 ∨ k = 1 ∨ k = 2 ∨ k = 3 ∨ k = 4 ∨ k = 5 ∨ k = 6 ∨ k = 7 ∨ k = 8 ∨ k = 9 ∨ k = 10 ∨ k = 11 ∨ k = 12 ∨ k = 13 ∨ k = 14 ∨ k = 15 ∨ k = 16 ∨ k = 17 := by omega
    rcases hcase with rfl | rfl | rfl | rfl | rfl | rfl | rfl | rfl | rfl | rfl | rfl | rfl | rfl | rfl | rfl | rfl | rfl | rfl
    · exact zi_t rfl (zwi ⟨rfl, rfl⟩)
    · exact zi_f (by decide) (zi_t rfl (zwi ⟨rfl, rfl⟩))
    · exact zi_f (by decide) (zi_f (by decide) (zi_t rfl (zwi ⟨rfl, rfl⟩)))
    · exact zi_f (by decide) (zi_f (by decide) (zi_f (by decide) (zi_t rfl (zwi ⟨rfl, rfl⟩))))
    · exact zi_f (by decide) (zi_f (by decide) (zi_f (by decide) (zi_f (by decide) (zi_t rfl (zwi ⟨r0, rfl⟩)))))
    · refine zi_f (by decide) (zi_f (by decide) (zi_f (by decide) (zi_f (by decide) (zi_f (by decide) (zi_t rfl ?_)))))
      rw [r0]
      exact zi_beq (m_lightAt hl hm.2.2.1 (by omega)) (zwi ⟨rfl, rfl⟩)
    · refine zi_f (by decide) (zi_f (by decide) (zi_f (by decide) (zi_f (by decide) (zi_f (by decide) (zi_f (by decide) (zi_t rfl (zi_beq (m_isDull (b := 0) (dl := sDull P hr) hl hm.2.2.1 (by omega) (by omega) r0 (.inl ⟨rfl, rfl⟩)) ?_)))))))
      cases hd : sDull P hr with
      | false => exact zi_t rfl (zwi ⟨rfl, rfl⟩)
      | true => exact zi_f (by decide) (zwi ⟨rfl, rfl⟩)
    · exact zi_f (by decide) (zi_f (by decide) (zi_f (by decide) (zi_f (by decide) (zi_f (by decide) (zi_f (by decide) (zi_f (by decide) (zi_t rfl (zwi ⟨r69, rfl⟩))))))))
    · refine zi_f (by decide) (zi_f (by decide) (zi_f (by decide) (zi_f (by decide) (zi_f (by decide) (zi_f (by decide) (zi_f (by decide) (zi_f (by decide) (zi_t rfl (zi_beq (m_sumOf (a := 0) (b := 33) (n := 36) (by decide)) (zwi ⟨?_, rfl⟩))))))))))
      show sSum _ 36 = nI (fb_ct wl.testBit 36)
      rw [sSum_cg (w := fun k => b2 (wl.testBit k)) (fun k hk => r5 k hk), sSum_ct]
    · refine zi_f (by decide) (zi_f (by decide) (zi_f (by decide) (zi_f (by decide) (zi_f (by decide) (zi_f (by decide) (zi_f (by decide) (zi_f (by decide) (zi_f (by decide) (zi_t rfl (zi_bind (zwp_mono (m_parts hP.1 hP.2.1 hP.2.2.2.1 hWH r5) ?_)))))))))))
      rintro ⟨x1, x2, x3⟩ e
      dsimp only at e
      exact zwi ⟨by rw [e]; rfl, rfl⟩
    · refine zi_f (by decide) (zi_f (by decide) (zi_f (by decide) (zi_f (by decide) (zi_f (by decide) (zi_f (by decide) (zi_f (by decide) (zi_f (by decide) (zi_f (by decide) (zi_f (by decide) (zi_t rfl (zi_beq (m_sumOf (a := 0) (b := 9) (by omega)) (zwi ⟨?_, rfl⟩))))))))))))
      show sSum _ (qF P) = sSum nsore (qF P)
      exact sSum_cg (fun k hk => r2 k hk)
    · refine zi_f (by decide) (zi_f (by decide) (zi_f (by decide) (zi_f (by decide) (zi_f (by decide) (zi_f (by decide) (zi_f (by decide) (zi_f (by decide) (zi_f (by decide) (zi_f (by decide) (zi_f (by decide) (zi_t rfl (zi_beq (m_heldOnes hF) (zwi ⟨?_, rfl⟩)))))))))))))
      show nI (bts _ (qF P)) = nI (bts (hB nheld) (qF P))
      rw [bts_cg (fun k hk => hB_cg (v := nheld) (r3 k hk))]
    · exact zi_f (by decide) (zi_f (by decide) (zi_f (by decide) (zi_f (by decide) (zi_f (by decide) (zi_f (by decide) (zi_f (by decide) (zi_f (by decide) (zi_f (by decide) (zi_f (by decide) (zi_f (by decide) (zi_f (by decide) (zi_t rfl (zwi ⟨rfl, rfl⟩)))))))))))))
    · exact zi_f (by decide) (zi_f (by decide) (zi_f (by decide) (zi_f (by decide) (zi_f (by decide) (zi_f (by decide) (zi_f (by decide) (zi_f (by decide) (zi_f (by decide) (zi_f (by decide) (zi_f (by decide) (zi_f (by decide) (zi_f (by decide) (zi_t rfl (zwi ⟨rfl, rfl⟩))))))))))))))
    · exact zi_f (by decide) (zi_f (by decide) (zi_f (by decide) (zi_f (by decide) (zi_f (by decide) (zi_f (by decide) (zi_f (by decide) (zi_f (by decide) (zi_f (by decide) (zi_f (by decide) (zi_f (by decide) (zi_f (by decide) (zi_f (by decide) (zi_f (by decide) (zi_t rfl (zwi ⟨rfl, rfl⟩)))))))))))))))
    · refine zi_f (by decide) (zi_f (by decide) (zi_f (by decide) (zi_f (by decide) (zi_f (by decide) (zi_f (by decide) (zi_f (by decide) (zi_f (by decide) (zi_f (by decide) (zi_f (by decide) (zi_f (by decide) (zi_f (by decide) (zi_f (by decide) (zi_f (by decide) (zi_f (by decide) (?_)))))))))))))))
      rw [show nI 15 - 15 = nI 0 from rfl, zbnd_nI (by decide) (by decide)]
      exact zwi ⟨(hQ 0 (by decide)).symm, rfl⟩
    · refine zi_f (by decide) (zi_f (by decide) (zi_f (by decide) (zi_f (by decide) (zi_f (by decide) (zi_f (by decide) (zi_f (by decide) (zi_f (by decide) (zi_f (by decide) (zi_f (by decide) (zi_f (by decide) (zi_f (by decide) (zi_f (by decide) (zi_f (by decide) (zi_f (by decide) (?_)))))))))))))))
      rw [show nI 16 - 15 = nI 1 from rfl, zbnd_nI (by decide) (by decide)]
      exact zwi ⟨(hQ 1 (by decide)).symm, rfl⟩
    · refine zi_f (by decide) (zi_f (by decide) (zi_f (by decide) (zi_f (by decide) (zi_f (by decide) (zi_f (by decide) (zi_f (by decide) (zi_f (by decide) (zi_f (by decide) (zi_f (by decide) (zi_f (by decide) (zi_f (by decide) (zi_f (by decide) (zi_f (by decide) (zi_f (by decide) (?_)))))))))))))))
      rw [show nI 17 - 15 = nI 2 from rfl, zbnd_nI (by decide) (by decide)]
      exact zwi ⟨(hQ 2 (by decide)).symm, rfl⟩
