/-! YEARS: draws and fates -/
def sd (s : Int32) : Int32 := s * 1103515245 + 12345
def dv (s : Int32) : Nat := ((sd s) >>> (nI 16 &&& 31)).toBitVec.toNat &&& 32767
theorem dv_lt (s : Int32) : dv s < 32768 := Nat.lt_of_le_of_lt Nat.and_le_right (by decide)
theorem dv_eq (s : Int32) : ((sd s) >>> (nI 16 &&& 31)) &&& 32767 = nI (dv s) := by
  unfold dv
  rw [← fa_and, ← zk_nI]; rfl
theorem m_draw {s : Int32} {n : Nat} (h0 : 0 < n) (hn : n < 2 ^ 31) : f_X12_draw (nI n) s = some (nI (dv s % n), sd s) := by
  have hd := dv_lt s
  unfold f_X12_draw
  rw [znz_nI h0 hn]
  show some ((((sd s) >>> (nI 16 &&& 31)) &&& 32767) - (((sd s) >>> (nI 16 &&& 31)) &&& 32767) / nI n * nI n, sd s) = _
  rw [dv_eq, pk_rem (by omega) h0 hn]
theorem c_draw {s : Int32} {n : Nat} (h0 : 0 < n) (hn : n < 2 ^ 31) : f_X11_draw (nI n) s = some (nI (dv s % n), sd s) := by
  have hd := dv_lt s
  unfold f_X11_draw
  rw [if_neg (show ¬ nI n ≤ 0 from nI_ge (a := 0) h0 hn), znz_nI h0 hn]
  show some (((((sd s).toUInt32 >>> ((nI 16).toUInt32 &&& Int32.toUInt32 31)).toInt32) &&& 32767) - ((((sd s).toUInt32 >>> ((nI 16).toUInt32 &&& Int32.toUInt32 31)).toInt32) &&& 32767) / nI n * nI n, sd s) = _
  rw [zk_sh15, dv_eq, pk_rem (by omega) h0 hn]
/-- a fate -/
def sFate (P : Pl) (wl : Nat) (s : Int32) (t : Tn) : Int32 × Tn :=
  if 2 < dv s % 6 ∨ qF P = 0 then (sd s, t) else
  if dv s % 6 = 0 then (sd (sd (sd s)), (t.1, t.2.1, upd t.2.2 (dv (sd s) % qF P) (nI (dv (sd (sd s)) % 4)))) else
  if dv s % 6 = 1 then (sd (sd (sd s)), if wl.testBit (dv (sd (sd s)) % (qW P * qH P)) then t else (upd t.1 (dv (sd s) % qF P) (nI (dv (sd (sd s)) % (qW P * qH P))), t.2.1, upd t.2.2 (dv (sd s) % qF P) 0)) else
  (sd (sd s), (t.1, upd t.2.1 (dv (sd s) % qF P) 0, t.2.2))
theorem nI_z0 {n : Nat} (h : n < 2 ^ 31) : nI n = 0 ↔ n = 0 := ⟨fun e => by
  by_cases q : n = 0
  · exact q
  · exact absurd e (nI_ne (b := 0) h (by decide) q), fun e => by rw [e]; rfl⟩
theorem c_drawFate {P : Pl} (hP : plOk P) {wl : Nat} {s : Int32} {cell sore held : Nat → Int32} (hw : wl < 2 ^ 63) : zwp (f_X11_drawFate cell held sore (lN wl) (nI (qF P)) (nI (qH P)) (nI (qW P)) s) (fun r => r = ((sFate P wl s (cell, sore, held)).2.1, (sFate P wl s (cell, sore, held)).2.2.2, (sFate P wl s (cell, sore, held)).2.2.1, (sFate P wl s (cell, sore, held)).1)) := by
  have hF := hP.2.2.2.2.1
  have hWH := hP.wh
  have hWH0 : 0 < qW P * qH P := Nat.mul_pos (by have := hP.1; omega) (by have := hP.2.2.1; omega)
  unfold f_X11_drawFate sFate
  refine zi_beq (c_draw (n := 6) (by decide) (by decide)) ?_
  have h6 : dv s % 6 < 6 := Nat.mod_lt _ (by decide)
  by_cases q1 : 2 < dv s % 6
  · rw [if_pos (Or.inl q1)]
    exact zi_t (nI_lt (a := 2) q1 (by omega)) (zwi rfl)
  refine zi_f (nI_nlt (b := dv s % 6) (a := 2) (by omega) (by decide)) ?_
  by_cases q2 : qF P = 0
  · rw [if_pos (Or.inr q2)]
    exact zi_t ((nI_z0 (by omega)).mpr q2) (zwi rfl)
  rw [if_neg (show ¬ (2 < dv s % 6 ∨ qF P = 0) by omega)]
  refine zi_f (fun e => q2 ((nI_z0 (by omega)).mp e)) ?_
  refine zi_beq (c_draw (n := qF P) (by omega) (by omega)) ?_
  have hf : dv (sd s) % qF P < qF P := Nat.mod_lt _ (by omega)
  by_cases q3 : dv s % 6 = 0
  · rw [if_pos q3]
    refine zi_t ((nI_z0 (by omega)).mpr q3) ?_
    refine zi_beq (c_draw (n := 4) (by decide) (by decide)) ?_
    dsimp only
    rw [zbnd_nI (by omega) (by decide), nI_clamp (by omega)]
    exact zwi rfl
  rw [if_neg q3]
  refine zi_f (fun e => q3 ((nI_z0 (by omega)).mp e)) ?_
  by_cases q4 : dv s % 6 = 1
  · rw [if_pos q4]
    refine zi_t (by rw [q4]; rfl) ?_
    unfold f_X3_cells
    refine zi_beq rfl ?_
    rw [pk_mul]
    refine zi_beq (c_draw hWH0 (by omega)) ?_
    have hc : dv (sd (sd s)) % (qW P * qH P) < qW P * qH P := Nat.mod_lt _ hWH0
    refine zi_beq (c_isWall hw (by omega)) ?_
    dsimp only
    cases hq : wl.testBit (dv (sd (sd s)) % (qW P * qH P)) with
    | false =>
      refine zi_t rfl ?_
      rw [zbnd_nI (by omega) (by decide), zbnd_nI (by omega) (by decide), nI_clamp (by omega)]
      exact zwi rfl
    | true => exact zi_f (by decide) (zwi rfl)
  · rw [if_neg q4]
    refine zi_f (fun e => nI_ne (b := 1) (by omega) (by decide) q4 e) ?_
    dsimp only
    rw [zbnd_nI (by omega) (by decide), nI_clamp (by omega)]
    exact zwi rfl
