/-! YEARS: fates (reference) -/
theorem m_happens {P : Pl} (hP : plOk P) {wl hr : Nat} {s : Int32} {ld : Nat → Nat} {rows : Nat → Int32} {t : Tn} (hR : rRow (qF P) 70 rows hr t.1 t.2.1 t.2.2 ld wl) : zwp (f_X12_happens (nI (qF P)) s rows (nI (qH P)) (nI (qW P))) (fun r => r.1 = (sFate P wl s t).1 ∧ rRow (qF P) 70 r.2 hr (sFate P wl s t).2.1 (sFate P wl s t).2.2.1 (sFate P wl s t).2.2.2 ld wl ∧ ∀ k, k < 70 → r.2 k = rows k) := by
  have hF := hP.2.2.2.2.1
  have hWH := hP.wh
  have hWH0 : 0 < qW P * qH P := Nat.mul_pos (by have := hP.1; omega) (by have := hP.2.2.1; omega)
  unfold f_X12_happens sFate
  refine zi_beq (m_draw (n := 6) (by decide) (by decide)) ?_
  have h6 : dv s % 6 < 6 := Nat.mod_lt _ (by decide)
  by_cases q1 : 2 < dv s % 6
  · rw [if_pos (Or.inl q1)]
    exact zi_t (nI_lt (a := 2) q1 (by omega)) (zwi ⟨rfl, hR, fun _ _ => rfl⟩)
  refine zi_f (nI_nlt (b := dv s % 6) (a := 2) (by omega) (by decide)) ?_
  by_cases q2 : qF P = 0
  · rw [if_pos (Or.inr q2)]
    exact zi_t ((nI_z0 (by omega)).mpr q2) (zwi ⟨rfl, hR, fun _ _ => rfl⟩)
  rw [if_neg (show ¬ (2 < dv s % 6 ∨ qF P = 0) by omega)]
  refine zi_f (fun e => q2 ((nI_z0 (by omega)).mp e)) ?_
  refine zi_beq (m_draw (n := qF P) (by omega) (by omega)) ?_
  have hf : dv (sd s) % qF P < qF P := Nat.mod_lt _ (by omega)
  have i87 : (87 : Int32) + nI (dv (sd s) % qF P) = nI (70 + 17 + dv (sd s) % qF P) := by rw [show (87 : Int32) = nI 87 from rfl, nI_add]
  have i79 : (79 : Int32) + nI (dv (sd s) % qF P) = nI (70 + 9 + dv (sd s) % qF P) := by rw [show (79 : Int32) = nI 79 from rfl, nI_add]
  by_cases q3 : dv s % 6 = 0
  · rw [if_pos q3]
    refine zi_t ((nI_z0 (by omega)).mpr q3) ?_
    refine zi_beq (m_draw (n := 4) (by decide) (by decide)) ?_
    dsimp only
    rw [i87, zbnd_nI (by omega) (by decide), nI_clamp (by omega)]
    exact zwi ⟨rfl, rRow_held hF hf hR, fun k hk => by show upd rows _ _ k = rows k; rw [pk_un (by omega)]⟩
  rw [if_neg q3]
  refine zi_f (fun e => q3 ((nI_z0 (by omega)).mp e)) ?_
  by_cases q4 : dv s % 6 = 1
  · rw [if_pos q4]
    refine zi_t (by rw [q4]; rfl) ?_
    rw [pk_mul]
    refine zi_beq (m_draw hWH0 (by omega)) ?_
    have hc : dv (sd (sd s)) % (qW P * qH P) < qW P * qH P := Nat.mod_lt _ hWH0
    have i103 : (103 : Int32) + nI (dv (sd (sd s)) % (qW P * qH P)) = nI (70 + 33 + dv (sd (sd s)) % (qW P * qH P)) := by rw [show (103 : Int32) = nI 103 from rfl, nI_add]
    dsimp only
    rw [i103, zbnd_nI (by omega) (by decide), nI_clamp (show 70 + 33 + dv (sd (sd s)) % (qW P * qH P) < 2 ^ 31 by omega), hR.2.2.2.2.2 _ (by omega)]
    cases hq : wl.testBit (dv (sd (sd s)) % (qW P * qH P)) with
    | false =>
      refine zi_f (by decide) ?_
      rw [ix71, i87, zbnd_nI (by omega) (by decide), zbnd_nI (by omega) (by decide), nI_clamp (show 70 + 1 + dv (sd s) % qF P < 2 ^ 31 by omega), nI_clamp (show 70 + 17 + dv (sd s) % qF P < 2 ^ 31 by omega)]
      exact zwi ⟨rfl, rRow_held hF hf (rRow_cell hF hf hR), fun k hk => by show upd (upd rows _ _) _ _ k = rows k; rw [pk_un (by omega), pk_un (by omega)]⟩
    | true => exact zi_t rfl (zwi ⟨rfl, hR, fun _ _ => rfl⟩)
  · rw [if_neg q4]
    refine zi_f (fun e => nI_ne (b := 1) (by omega) (by decide) q4 e) ?_
    dsimp only
    rw [i79, zbnd_nI (by omega) (by decide), nI_clamp (by omega)]
    exact zwi ⟨rfl, rRow_sore hF hf hR, fun k hk => by show upd rows _ _ k = rows k; rw [pk_un (by omega)]⟩
/-- fates keep a town in order -/
theorem sFate_ok {P : Pl} (hP : plOk P) {wl : Nat} {s : Int32} {t : Tn} (h : tOk P t) : tOk P (sFate P wl s t).2 := by
  have hWH := hP.wh
  have hWH0 : 0 < qW P * qH P := Nat.mul_pos (by have := hP.1; omega) (by have := hP.2.2.1; omega)
  have kh : ∀ (u : Nat → Int32) (j v : Nat), v < 2 ^ 30 → hdOk (qF P) u → hdOk (qF P) (upd u j (nI v)) := by
    intro u j v hv hu k hk
    by_cases he : k = j
    · subst he; exact ⟨v, pk_us, hv⟩
    · rw [pk_un he]; exact hu k hk
  have kc : ∀ (u : Nat → Int32) (j v : Nat), v < qW P * qH P → clOk P u → clOk P (upd u j (nI v)) := by
    intro u j v hv hu k hk
    by_cases he : k = j
    · subst he; exact ⟨v, pk_us, hv⟩
    · rw [pk_un he]; exact hu k hk
  unfold sFate
  split
  · exact h
  split
  · exact ⟨h.1, kh _ _ _ (Nat.lt_trans (Nat.mod_lt _ (by decide)) (by decide)) h.2⟩
  split
  · dsimp only
    split
    · exact h
    · exact ⟨kc _ _ _ (Nat.mod_lt _ hWH0) h.1, kh _ _ 0 (by decide) h.2⟩
  · exact h
