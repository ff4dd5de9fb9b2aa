/-! ACTS -/
def ActR (P : Pl) (hr pn wl nx na : Nat) (ncell nsore nheld nlead rows drows mkept refd mrefd : Nat → Int32) : Prop := NowR P hr pn wl ncell nsore nheld nlead rows ∧ DiaR P nx na drows mkept ∧ ∀ k, k < 3 → refd k = mrefd k
theorem ref_upd {refd mrefd : Nat → Int32} {i : Nat} (h : ∀ k, k < 3 → refd k = mrefd k) (hi : i < 3) : ∀ k, k < 3 → upd refd i (refd i + 1) k = upd mrefd i (mrefd i + 1) k := by
  intro k hk
  by_cases he : k = i
  · subst he; rw [pk_us, pk_us, h k hk]
  · rw [pk_un he, pk_un he]; exact h k hk
theorem m_refuses1 {mrefd : Nat → Int32} : f_X12_refuses 1 mrefd = some (-1, upd mrefd 1 (mrefd 1 + 1)) := by
  unfold f_X12_refuses
  rw [show (1 : Int32) = nI 1 from rfl, zbnd_nI (by decide) (by decide), zbnd_nI (by decide) (by decide), nI_clamp (by decide)]
theorem m_refuses2 {mrefd : Nat → Int32} : f_X12_refuses 2 mrefd = some (-1, upd mrefd 2 (mrefd 2 + 1)) := by
  unfold f_X12_refuses
  rw [show (2 : Int32) = nI 2 from rfl, zbnd_nI (by decide) (by decide), zbnd_nI (by decide) (by decide), nI_clamp (by decide)]
theorem ix17 {f : Nat} : (17 : Int32) + nI f = nI (0 + 17 + f) := by rw [show (17 : Int32) = nI 17 from rfl, nI_add]
theorem ix9 {f : Nat} : (9 : Int32) + nI f = nI (0 + 9 + f) := by rw [show (9 : Int32) = nI 9 from rfl, nI_add]
theorem ix1 {f : Nat} : (1 : Int32) + nI f = nI (0 + 1 + f) := by rw [show (1 : Int32) = nI 1 from rfl, nI_add]
theorem ix33 {f : Nat} : (33 : Int32) + nI f = nI (0 + 33 + f) := by rw [show (33 : Int32) = nI 33 from rfl, nI_add]
theorem ix25 {f : Nat} : (25 : Int32) + nI f = nI (0 + 25 + f) := by rw [show (25 : Int32) = nI 25 from rfl, nI_add]
/-- pence, more by so many -/
def pnN (pn d : Nat) : Nat := if pn + d < 9999 then pn + d else 9999
theorem c_pay {pn d : Nat} (h : pn ≤ 9999) (hd : d ≤ 9) : f_X11_pay (nI d) (nI pn) = some (nI (pnN pn d)) := by
  unfold f_X11_pay pnN
  rw [nI_add, show (9999 : Int32) = nI 9999 from rfl]
  by_cases h2 : pn + d < 9999
  · rw [if_pos (nI_lt h2 (by decide)), if_pos h2]
  · rw [if_neg (nI_nlt (by omega) (by omega)), if_neg h2]
theorem m_pay {pn d : Nat} (h : pn ≤ 9999) (hd : d ≤ 9) : f_X12_lesser (9999 : Int32) (nI pn + nI d) = some (nI (pnN pn d)) := by
  unfold f_X12_lesser pnN
  rw [nI_add, show (9999 : Int32) = nI 9999 from rfl]
  by_cases h2 : pn + d < 9999
  · rw [if_pos (nI_le (by omega) (by decide)), if_pos h2]
  · rw [if_neg h2]
    by_cases h3 : pn + d ≤ 9999
    · rw [if_pos (nI_le h3 (by decide))]; congr 2; omega
    · rw [if_neg (nI_ge (by omega) (by omega))]
theorem pnN_le {pn d : Nat} : pnN pn d ≤ 9999 := by unfold pnN; split <;> omega
theorem NowR.held {P : Pl} (hP : plOk P) {hr pn wl f n : Nat} {ncell nsore nheld nlead rows : Nat → Int32} (h : NowR P hr pn wl ncell nsore nheld nlead rows) (hf : f < qF P) (hn : n ≤ 9) : NowR P hr pn wl ncell nsore (upd nheld f (nI n)) nlead (upd rows (0 + 17 + f) (nI n)) := by
  have hF := hP.2.2.2.2.1
  obtain ⟨a1, a2, a3, a4, a5, a6, a7, a8, a9⟩ := h
  refine ⟨rRow_held hF hf a1, by rw [pk_un (by omega)]; exact a2, a3, a4, a5, a6, fun g hg => ?_, a8, a9⟩
  by_cases he : g = f
  · subst he; exact ⟨n, pk_us, hn⟩
  · rw [pk_un he]; exact a7 g hg
theorem NowR.sore {P : Pl} (hP : plOk P) {hr pn wl f n : Nat} {ncell nsore nheld nlead rows : Nat → Int32} (h : NowR P hr pn wl ncell nsore nheld nlead rows) (hf : f < qF P) (hn : n ≤ 99) : NowR P hr pn wl ncell (upd nsore f (nI n)) nheld nlead (upd rows (0 + 9 + f) (nI n)) := by
  have hF := hP.2.2.2.2.1
  obtain ⟨a1, a2, a3, a4, a5, a6, a7, a8, a9⟩ := h
  refine ⟨rRow_sore hF hf a1, by rw [pk_un (by omega)]; exact a2, a3, a4, a5, a6, a7, fun g hg => ?_, a9⟩
  by_cases he : g = f
  · subst he; exact ⟨n, pk_us, hn⟩
  · rw [pk_un he]; exact a8 g hg
theorem NowR.cell {P : Pl} (hP : plOk P) {hr pn wl f n : Nat} {ncell nsore nheld nlead rows : Nat → Int32} (h : NowR P hr pn wl ncell nsore nheld nlead rows) (hf : f < qF P) (hn : n < qW P * qH P) : NowR P hr pn wl (upd ncell f (nI n)) nsore nheld nlead (upd rows (0 + 1 + f) (nI n)) := by
  have hF := hP.2.2.2.2.1
  obtain ⟨a1, a2, a3, a4, a5, a6, a7, a8, a9⟩ := h
  refine ⟨rRow_cell hF hf a1, by rw [pk_un (by omega)]; exact a2, a3, a4, a5, fun g hg => ?_, a7, a8, a9⟩
  by_cases he : g = f
  · subst he; exact ⟨n, pk_us, hn⟩
  · rw [pk_un he]; exact a6 g hg
theorem NowR.pence {P : Pl} (hP : plOk P) {hr pn wl n : Nat} {ncell nsore nheld nlead rows : Nat → Int32} (h : NowR P hr pn wl ncell nsore nheld nlead rows) (hn : n ≤ 9999) : NowR P hr n wl ncell nsore nheld nlead (upd rows 69 (nI n)) := by
  have hF := hP.2.2.2.2.1
  obtain ⟨⟨r0, r1, r2, r3, r4, r5⟩, a2, a3, a4, a5⟩ := h
  exact ⟨⟨by rw [pk_un (by omega)]; exact r0, fun f hf => by rw [pk_un (by omega)]; exact r1 f hf, fun f hf => by rw [pk_un (by omega)]; exact r2 f hf, fun f hf => by rw [pk_un (by omega)]; exact r3 f hf, fun f hf => by rw [pk_un (by omega)]; exact r4 f hf, fun f hf => by rw [pk_un (by omega)]; exact r5 f hf⟩, pk_us, a3, hn, a5⟩
theorem cm_stop {P : Pl} (hP : plOk P) {hr pn wl nx na : Nat} {ncell nsore nheld nlead rows drows mkept refd mrefd : Nat → Int32} {mwl mways mlight mcode mtold mpile vals gst hst : Nat → Int32} {mga mha mthr : Int32} (hm : mPl P mwl mways mlight mcode mga mha) (hA : ActR P hr pn wl nx na ncell nsore nheld nlead rows drows mkept refd mrefd) {a1 a2 : Int32} : zwp (f_X11_stop a1 a2 (nI na) (nI nx) drows ncell nheld (nI hr) (nI pn) nsore (lN wl) (qDb P) (nI (qF P)) (qLt P) (nI (qNl P)) refd) (fun r => r.1 = toN (cond (okN (qF P) a1) (some (if sDull P hr = false ∧ inR 1 9 a2 = true then nI (pnN pn 1) else -1)) none) ∧ zwp (f_X12_stop a1 a2 (nI na) (qDb P) (-1 : Int32) (nI (qF P)) mkept mlight (nI (qNl P)) mrefd rows mthr) (fun s => s.1 = toW (cond (okN (qF P) a1) (some (if sDull P hr = false ∧ inR 1 9 a2 = true then nI (pnN pn 1) else -1)) none) ∧ s.2.2.2.2.2 = toU (cond (okN (qF P) a1) (some (if sDull P hr = false ∧ inR 1 9 a2 = true then nI (pnN pn 1) else -1)) none) ∧ ∃ nx2 na2 pn2, r.2.1 = nI na2 ∧ s.2.1 = nI na2 ∧ r.2.2.1 = nI nx2 ∧ r.2.2.2.2.2.1 = nI pn2 ∧ ActR P hr pn2 wl nx2 na2 ncell nsore r.2.2.2.2.1 nlead s.2.2.2.2.1 r.2.2.2.1 s.2.2.1 r.2.2.2.2.2.2 s.2.2.2.1)) := by
  have hF := hP.2.2.2.2.1
  have hWH := hP.wh
  obtain ⟨hN, hD, hRf⟩ := hA
  unfold f_X11_stop f_X12_stop
  refine zi_beq (c_checkFigure (F := qF P) (by omega)) ?_
  cases hc0 : okN (qF P) a1 with
  | false =>
    refine zwi ⟨rfl, ?_⟩
    refine zi_beq (m_isFigure (F := qF P) (by omega)) ?_
    rw [hc0]
    exact zi_t rfl (zwi ⟨rfl, rfl, ⟨nx, na, pn, rfl, rfl, rfl, rfl, hN, hD, hRf⟩⟩)
  | true =>
    obtain ⟨f, hf, rfl⟩ := okN_t hc0
    refine zi_beq (c_isDull hP.2.2.2.2.2.1 (by have := hN.2.2.1; omega)) ?_
    have md := (m_isDull (b := 0) (dl := sDull P hr) hP.2.2.2.2.2.1 hm.2.2.1 (by have := hN.2.2.1; omega) (by omega) hN.1.1 (Or.inl ⟨rfl, rfl⟩))
    cases hd : sDull P hr with
    | true =>
      rw [hd] at md
      refine zi_f (by decide) ?_
      refine zi_beq (a := (-1, upd refd 1 (refd 1 + 1))) rfl (zwi ⟨by simp; rfl, ?_⟩)
      refine zi_beq (m_isFigure (F := qF P) (by omega)) ?_
      rw [hc0]
      refine zi_f (by decide) (zi_beq md (zi_f (by decide) (zi_beq m_refuses1 (zwi ⟨by simp; rfl, rfl, ⟨nx, na, pn, rfl, rfl, rfl, rfl, hN, hD, ref_upd hRf (by decide)⟩⟩))))
    | false =>
      rw [hd] at md
      refine zi_t rfl ?_
      cases hi : inR 1 9 a2 with
      | false =>
        have hcl : zwp (Option.bind (f_X11_refuseAct refd) (fun q => match q with | (r6, o5) => some ((Sum.inl r6 : Int32 ⊕ String), nI na, nI nx, drows, nheld, nI pn, o5))) (fun r => r = (Sum.inl (-1), nI na, nI nx, drows, nheld, nI pn, upd refd 1 (refd 1 + 1))) := zi_beq rfl (zwi rfl)
        have hno : ¬ ((1 : Int) ≤ a2.toInt ∧ a2.toInt ≤ 9) := of_decide_eq_false hi
        refine zwp_mono (Q := fun r => r = (Sum.inl (-1), nI na, nI nx, drows, nheld, nI pn, upd refd 1 (refd 1 + 1))) ?_ ?_
        · refine zi_c (fun q => hcl) (fun q => zi_f (fun q2 => hno ?_) hcl)
          rw [show (1 : Int32) = nI 1 from rfl, ck_ltn (by decide)] at q
          rw [show (9 : Int32) = nI 9 from rfl, ck_len (by decide)] at q2
          omega
        · rintro _ rfl
          refine ⟨by simp; rfl, ?_⟩
          refine zi_beq (m_isFigure (F := qF P) (by omega)) ?_
          rw [hc0]
          refine zi_f (by decide) (zi_beq md (zi_t rfl ?_))
          refine zi_beq (m_within (lo := 1) (hi := 9) (by decide) (by decide)) ?_
          rw [hi]
          exact zi_t rfl (zi_beq m_refuses1 (zwi ⟨by simp; rfl, rfl, ⟨nx, na, pn, rfl, rfl, rfl, rfl, hN, hD, ref_upd hRf (by decide)⟩⟩))
      | true =>
        obtain ⟨n, hn1, hn9, rfl⟩ := inR_t hi
        refine zi_f (by rw [show (1 : Int32) = nI 1 from rfl]; exact nI_nlt hn1 (by omega)) (zi_t (by rw [show (9 : Int32) = nI 9 from rfl]; exact nI_le hn9 (by decide)) ?_)
        refine zi_bind (zwp_mono (c_keep (nx := nx) (na := na) (hr := hr) (pn := pn) (wl := wl) hD.1 hD.2.1) ?_)
        rintro ⟨u1, u2, u3⟩ ⟨k1, k2, k3, k4, k5, k6, k7⟩
        dsimp only at k1 k2 k3 k4 k5 k6 k7 ⊢
        subst k1 k2
        rw [zbnd_nI (by omega) (by decide), nI_clamp (show f < 2 ^ 31 by omega)]
        refine zi_beq (c_pay (d := 1) hN.2.2.2.1 (by decide)) (zwi ⟨by simp; rfl, ?_⟩)
        refine zi_beq (m_isFigure (F := qF P) (by omega)) ?_
        rw [hc0]
        refine zi_f (by decide) (zi_beq md (zi_t rfl ?_))
        refine zi_beq (m_within (lo := 1) (hi := 9) (by decide) (by decide)) ?_
        rw [hi]
        refine zi_f (by decide) ?_
        refine zi_bind (zwp_mono (m_keeps hD.2.1) ?_)
        rintro ⟨v1, v2⟩ ⟨l1, l2, l3⟩
        dsimp only at l1 l2 l3 ⊢
        subst l1
        have hD2 := dia_keep hP hD hN k3 k4 k5 k6 k7 l2 l3
        rw [ix17, zbnd_nI (by omega) (by decide), nI_clamp (by omega), pk_un (show (69 : Nat) ≠ 0 + 17 + f by omega), hN.2.1]
        refine zi_beq (m_pay (d := 1) hN.2.2.2.1 (by decide)) (zwi ⟨?_, rfl, (nx + 1) % 40, naN na, pnN pn 1, rfl, rfl, rfl, rfl, (hN.held hP hf hn9).pence hP pnN_le, hD2, hRf⟩)
        rw [pk_us]; simp; rfl
theorem cm_brush {P : Pl} (hP : plOk P) {hr pn wl nx na : Nat} {ncell nsore nheld nlead rows drows mkept refd mrefd : Nat → Int32} {mwl mways mlight mcode mtold mpile vals gst hst : Nat → Int32} {mga mha mthr : Int32} (hm : mPl P mwl mways mlight mcode mga mha) (hA : ActR P hr pn wl nx na ncell nsore nheld nlead rows drows mkept refd mrefd) {a1 : Int32} : zwp (f_X11_brush a1 (nI na) (nI nx) drows ncell nheld (nI hr) (nI pn) nsore (lN wl) (nI (qF P)) refd) (fun r => r.1 = toN (cond (okN (qF P) a1) (some (if nsore a1.toNatClampNeg = 0 then -1 else nsore a1.toNatClampNeg)) none) ∧ zwp (f_X12_brush a1 (nI na) (nI (qF P)) mkept mrefd rows mthr) (fun s => s.1 = toW (cond (okN (qF P) a1) (some (if nsore a1.toNatClampNeg = 0 then -1 else nsore a1.toNatClampNeg)) none) ∧ s.2.2.2.2.2 = toU (cond (okN (qF P) a1) (some (if nsore a1.toNatClampNeg = 0 then -1 else nsore a1.toNatClampNeg)) none) ∧ ∃ nx2 na2, r.2.1 = nI na2 ∧ s.2.1 = nI na2 ∧ r.2.2.1 = nI nx2 ∧ ActR P hr pn wl nx2 na2 ncell r.2.2.2.2.1 nheld nlead s.2.2.2.2.1 r.2.2.2.1 s.2.2.1 r.2.2.2.2.2 s.2.2.2.1)) := by
  have hF := hP.2.2.2.2.1
  have hWH := hP.wh
  obtain ⟨hN, hD, hRf⟩ := hA
  unfold f_X11_brush f_X12_brush
  refine zi_beq (c_checkFigure (F := qF P) (by omega)) ?_
  cases hc0 : okN (qF P) a1 with
  | false =>
    refine zwi ⟨rfl, ?_⟩
    refine zi_beq (m_isFigure (F := qF P) (by omega)) ?_
    rw [hc0]
    exact zi_t rfl (zwi ⟨rfl, rfl, ⟨nx, na, rfl, rfl, rfl, hN, hD, hRf⟩⟩)
  | true =>
    obtain ⟨f, hf, rfl⟩ := okN_t hc0
    have hsr : rows (0 + 9 + f) = nsore f := hN.1.2.2.1 f hf
    dsimp only
    rw [nI_clamp (show f < 2 ^ 31 by omega), zbnd_nI (by omega) (by decide)]
    by_cases h0 : nsore f = 0
    · refine zi_t h0 ?_
      refine zi_beq (a := (-1, upd refd 1 (refd 1 + 1))) rfl (zwi ⟨by rw [if_pos h0]; rfl, ?_⟩)
      refine zi_beq (m_isFigure (F := qF P) (by omega)) ?_
      rw [hc0]
      refine zi_f (by decide) ?_
      rw [ix9, zbnd_nI (by omega) (by decide), nI_clamp (by omega), hsr]
      exact zi_t h0 (zi_beq m_refuses1 (zwi ⟨by rw [if_pos h0]; rfl, rfl, ⟨nx, na, rfl, rfl, rfl, hN, hD, ref_upd hRf (by decide)⟩⟩))
    · refine zi_f h0 ?_
      refine zi_bind (zwp_mono (c_keep (nx := nx) (na := na) (hr := hr) (pn := pn) (wl := wl) hD.1 hD.2.1) ?_)
      rintro ⟨u1, u2, u3⟩ ⟨k1, k2, k3, k4, k5, k6, k7⟩
      dsimp only at k1 k2 k3 k4 k5 k6 k7 ⊢
      subst k1 k2
      rw [zbnd_nI (by omega) (by decide)]
      refine zwi ⟨by rw [if_neg h0]; rfl, ?_⟩
      refine zi_beq (m_isFigure (F := qF P) (by omega)) ?_
      rw [hc0]
      refine zi_f (by decide) ?_
      rw [ix9, zbnd_nI (by omega) (by decide), nI_clamp (by omega), hsr]
      refine zi_f h0 ?_
      refine zi_bind (zwp_mono (m_keeps hD.2.1) ?_)
      rintro ⟨v1, v2⟩ ⟨l1, l2, l3⟩
      dsimp only at l1 l2 l3 ⊢
      subst l1
      have hD2 := dia_keep hP hD hN k3 k4 k5 k6 k7 l2 l3
      rw [zbnd_nI (by omega) (by decide)]
      exact zwi ⟨by rw [if_neg h0]; rfl, rfl, (nx + 1) % 40, naN na, rfl, rfl, rfl, hN.sore hP (n := 0) hf (by omega), hD2, hRf⟩
theorem cm_lift {P : Pl} (hP : plOk P) {hr pn wl nx na : Nat} {ncell nsore nheld nlead rows drows mkept refd mrefd : Nat → Int32} {mwl mways mlight mcode mtold mpile vals gst hst : Nat → Int32} {mga mha mthr : Int32} (hm : mPl P mwl mways mlight mcode mga mha) (hA : ActR P hr pn wl nx na ncell nsore nheld nlead rows drows mkept refd mrefd) {a1 a2 : Int32} : zwp (f_X11_lift a1 a2 (nI na) (nI nx) drows ncell nheld (nI hr) (nI pn) nsore (lN wl) (qDb P) (nI (qF P)) (nI (qH P)) (qLt P) (nI (qNl P)) (nI (qW P)) refd) (fun r => r.1 = toN (cond (okN (qF P) a1) (cond (okN (qW P * qH P) a2) (some (if sDull P hr = false ∧ ¬ ncell a1.toNatClampNeg = a2 ∧ wl.testBit a2.toNatClampNeg = false then ncell a1.toNatClampNeg else -1)) none) none) ∧ zwp (f_X12_lift a1 a2 (nI na) (qDb P) (-1 : Int32) (nI (qF P)) mkept mlight (nI (qNl P)) mrefd rows (nI (qH P)) mthr (nI (qW P))) (fun s => s.1 = toW (cond (okN (qF P) a1) (cond (okN (qW P * qH P) a2) (some (if sDull P hr = false ∧ ¬ ncell a1.toNatClampNeg = a2 ∧ wl.testBit a2.toNatClampNeg = false then ncell a1.toNatClampNeg else -1)) none) none) ∧ s.2.2.2.2.2 = toU (cond (okN (qF P) a1) (cond (okN (qW P * qH P) a2) (some (if sDull P hr = false ∧ ¬ ncell a1.toNatClampNeg = a2 ∧ wl.testBit a2.toNatClampNeg = false then ncell a1.toNatClampNeg else -1)) none) none) ∧ ∃ nx2 na2 pn2, r.2.1 = nI na2 ∧ s.2.1 = nI na2 ∧ r.2.2.1 = nI nx2 ∧ r.2.2.2.2.2.2.1 = nI pn2 ∧ ActR P hr pn2 wl nx2 na2 r.2.2.2.2.1 nsore r.2.2.2.2.2.1 nlead s.2.2.2.2.1 r.2.2.2.1 s.2.2.1 r.2.2.2.2.2.2.2 s.2.2.2.1)) := by
  have hF := hP.2.2.2.2.1
  have hWH := hP.wh
  obtain ⟨hN, hD, hRf⟩ := hA
  unfold f_X11_lift f_X12_lift
  refine zi_beq (c_checkFigure (F := qF P) (by omega)) ?_
  cases hc0 : okN (qF P) a1 with
  | false =>
    refine zwi ⟨rfl, ?_⟩
    refine zi_beq (m_isFigure (F := qF P) (by omega)) ?_
    rw [hc0]
    exact zi_t rfl (zwi ⟨rfl, rfl, ⟨nx, na, pn, rfl, rfl, rfl, rfl, hN, hD, hRf⟩⟩)
  | true =>
    refine zi_beq (c_checkCell (W := qW P) (H := qH P) (by omega)) ?_
    cases hc1 : okN (qW P * qH P) a2 with
    | false =>
      refine zwi ⟨rfl, ?_⟩
      refine zi_beq (m_isFigure (F := qF P) (by omega)) ?_
      rw [hc0]
      refine zi_f (by decide) ?_
      refine zi_beq (m_isCell (W := qW P) (H := qH P) (by omega)) ?_
      rw [hc1]
      exact zi_t rfl (zwi ⟨rfl, rfl, ⟨nx, na, pn, rfl, rfl, rfl, rfl, hN, hD, hRf⟩⟩)
    | true =>
      obtain ⟨f, hf, rfl⟩ := okN_t hc0
      obtain ⟨c, hc, rfl⟩ := okN_t hc1
      have hcr : rows (0 + 1 + f) = ncell f := hN.1.2.1 f hf
      have hwr : rows (0 + 33 + c) = b2 (wl.testBit c) := hN.1.2.2.2.2.2 c (by omega)
      have md := (m_isDull (b := 0) (dl := sDull P hr) hP.2.2.2.2.2.1 hm.2.2.1 (by have := hN.2.2.1; omega) (by omega) hN.1.1 (Or.inl ⟨rfl, rfl⟩))
      dsimp only
      rw [nI_clamp (show f < 2 ^ 31 by omega), nI_clamp (show c < 2 ^ 31 by omega), zbnd_nI (by omega) (by decide)]
      refine zi_beq (c_isDull hP.2.2.2.2.2.1 (by have := hN.2.2.1; omega)) ?_
      cases hd : sDull P hr with
      | true =>
        rw [hd] at md
        refine zi_f (by decide) ?_
        refine zi_beq (a := (-1, upd refd 1 (refd 1 + 1))) rfl (zwi ⟨by rw [if_neg (by simp)]; rfl, ?_⟩)
        refine zi_beq (m_isFigure (F := qF P) (by omega)) ?_
        rw [hc0]
        refine zi_f (by decide) ?_
        refine zi_beq (m_isCell (W := qW P) (H := qH P) (by omega)) ?_
        rw [hc1]
        refine zi_f (by decide) ?_
        rw [ix1, zbnd_nI (by omega) (by decide), nI_clamp (show 0 + 1 + f < 2 ^ 31 by omega), hcr]
        refine zi_beq md ?_
        exact zi_f (by decide) (zi_beq m_refuses1 (zwi ⟨by rw [if_neg (by simp)]; rfl, rfl, ⟨nx, na, pn, rfl, rfl, rfl, rfl, hN, hD, ref_upd hRf (by decide)⟩⟩))
      | false =>
        rw [hd] at md
        refine zi_t rfl ?_
        by_cases h0 : ncell f = nI c
        · refine zi_t h0 ?_
          refine zi_beq (a := (-1, upd refd 1 (refd 1 + 1))) rfl (zwi ⟨by rw [if_neg (by simp [h0])]; rfl, ?_⟩)
          refine zi_beq (m_isFigure (F := qF P) (by omega)) ?_
          rw [hc0]
          refine zi_f (by decide) ?_
          refine zi_beq (m_isCell (W := qW P) (H := qH P) (by omega)) ?_
          rw [hc1]
          refine zi_f (by decide) ?_
          rw [ix1, zbnd_nI (by omega) (by decide), nI_clamp (show 0 + 1 + f < 2 ^ 31 by omega), hcr]
          refine zi_beq md ?_
          exact zi_t rfl (zi_t h0 (zi_beq m_refuses1 (zwi ⟨by rw [if_neg (by simp [h0])]; rfl, rfl, ⟨nx, na, pn, rfl, rfl, rfl, rfl, hN, hD, ref_upd hRf (by decide)⟩⟩)))
        · refine zi_f h0 ?_
          refine zi_beq (c_isWall (hN.wl63 hP) (by omega)) ?_
          cases hw : wl.testBit c with
          | true =>
            refine zi_f (by decide) ?_
            refine zi_beq (a := (-1, upd refd 1 (refd 1 + 1))) rfl (zwi ⟨by rw [if_neg (by simp)]; rfl, ?_⟩)
            refine zi_beq (m_isFigure (F := qF P) (by omega)) ?_
            rw [hc0]
            refine zi_f (by decide) ?_
            refine zi_beq (m_isCell (W := qW P) (H := qH P) (by omega)) ?_
            rw [hc1]
            refine zi_f (by decide) ?_
            rw [ix1, zbnd_nI (by omega) (by decide), nI_clamp (show 0 + 1 + f < 2 ^ 31 by omega), hcr]
            refine zi_beq md ?_
            refine zi_t rfl (zi_f h0 ?_)
            rw [ix33, zbnd_nI (by omega) (by decide), nI_clamp (show 0 + 33 + c < 2 ^ 31 by omega), hwr, hw]
            exact zi_t rfl (zi_beq m_refuses1 (zwi ⟨by rw [if_neg (by simp)]; rfl, rfl, ⟨nx, na, pn, rfl, rfl, rfl, rfl, hN, hD, ref_upd hRf (by decide)⟩⟩))
          | false =>
            refine zi_t rfl ?_
            refine zi_bind (zwp_mono (c_keep (nx := nx) (na := na) (hr := hr) (pn := pn) (wl := wl) hD.1 hD.2.1) ?_)
            rintro ⟨u1, u2, u3⟩ ⟨k1, k2, k3, k4, k5, k6, k7⟩
            dsimp only at k1 k2 k3 k4 k5 k6 k7 ⊢
            subst k1 k2
            rw [zbnd_nI (by omega) (by decide), zbnd_nI (by omega) (by decide)]
            refine zi_beq (c_pay (d := 3) hN.2.2.2.1 (by decide)) (zwi ⟨by rw [if_pos ⟨rfl, h0, rfl⟩]; rfl, ?_⟩)
            refine zi_beq (m_isFigure (F := qF P) (by omega)) ?_
            rw [hc0]
            refine zi_f (by decide) ?_
            refine zi_beq (m_isCell (W := qW P) (H := qH P) (by omega)) ?_
            rw [hc1]
            refine zi_f (by decide) ?_
            rw [ix1, zbnd_nI (by omega) (by decide), nI_clamp (show 0 + 1 + f < 2 ^ 31 by omega), hcr]
            refine zi_beq md ?_
            refine zi_t rfl (zi_f h0 ?_)
            rw [ix33, zbnd_nI (by omega) (by decide), nI_clamp (show 0 + 33 + c < 2 ^ 31 by omega), hwr, hw]
            refine zi_f (by decide) ?_
            refine zi_bind (zwp_mono (m_keeps hD.2.1) ?_)
            rintro ⟨v1, v2⟩ ⟨l1, l2, l3⟩
            dsimp only at l1 l2 l3 ⊢
            subst l1
            have hD2 := dia_keep hP hD hN k3 k4 k5 k6 k7 l2 l3
            rw [zbnd_nI (by omega) (by decide), ix17, zbnd_nI (by omega) (by decide), nI_clamp (show 0 + 17 + f < 2 ^ 31 by omega), pk_un (show (69 : Nat) ≠ 0 + 17 + f by omega), pk_un (show (69 : Nat) ≠ 0 + 1 + f by omega), hN.2.1]
            refine zi_beq (m_pay (d := 3) hN.2.2.2.1 (by decide)) (zwi ⟨by rw [if_pos ⟨rfl, h0, rfl⟩]; rfl, rfl, (nx + 1) % 40, naN na, pnN pn 3, rfl, rfl, rfl, rfl, ((hN.cell hP hf hc).held hP (n := 0) hf (by omega)).pence hP pnN_le, hD2, hRf⟩)
