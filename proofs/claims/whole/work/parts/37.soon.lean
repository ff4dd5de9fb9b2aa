/-! HOURS TO COME: what the class and the reference answer -/
/-- the town of now, in the class and in the reference -/
def NowR (P : Pl) (hr pn wl : Nat) (ncell nsore nheld nlead rows : Nat → Int32) : Prop := rRow (qF P) 0 rows hr ncell nsore nheld (fun _ => 0) wl ∧ rows 69 = nI pn ∧ hr ≤ 9999 ∧ pn ≤ 9999 ∧ wl < 2 ^ (qW P * qH P) ∧ clOk P ncell ∧ (∀ f, f < qF P → ∃ h, nheld f = nI h ∧ h ≤ 9) ∧ (∀ f, f < qF P → ∃ s, nsore f = nI s ∧ s ≤ 99) ∧ (∀ f, f < qF P → nlead f = nI 0)
theorem NowR.tk {P : Pl} {hr pn wl : Nat} {ncell nsore nheld nlead rows : Nat → Int32} (h : NowR P hr pn wl ncell nsore nheld nlead rows) : tOk P (ncell, nsore, nheld) := ⟨h.2.2.2.2.2.1, fun f hf => by
  obtain ⟨x, h1, h2⟩ := h.2.2.2.2.2.2.1 f hf
  exact ⟨x, h1, by omega⟩⟩
theorem plOk.wh {P : Pl} (hP : plOk P) : qW P * qH P ≤ 36 := Nat.mul_le_mul hP.2.1 hP.2.2.2.1
theorem NowR.wl36 {P : Pl} (hP : plOk P) {hr pn wl : Nat} {ncell nsore nheld nlead rows : Nat → Int32} (h : NowR P hr pn wl ncell nsore nheld nlead rows) : wl < 2 ^ 36 := Nat.lt_of_lt_of_le h.2.2.2.2.1 (Nat.pow_le_pow_right (by decide) hP.wh)
theorem NowR.wl63 {P : Pl} (hP : plOk P) {hr pn wl : Nat} {ncell nsore nheld nlead rows : Nat → Int32} (h : NowR P hr pn wl ncell nsore nheld nlead rows) : wl < 2 ^ 63 := Nat.lt_trans (h.wl36 hP) (by decide)
theorem NowR.fr {P : Pl} {hr pn wl : Nat} {ncell nsore nheld nlead rows rows' : Nat → Int32} (hP : plOk P) (h : NowR P hr pn wl ncell nsore nheld nlead rows) (e : ∀ k, k < 70 → rows' k = rows k) : NowR P hr pn wl ncell nsore nheld nlead rows' := by
  have hF := hP.2.2.2.2.1
  obtain ⟨⟨r0, r1, r2, r3, r4, r5⟩, h2, h3⟩ := h
  exact ⟨⟨by rw [e _ (by omega)]; exact r0, fun f hf => by rw [e _ (by omega)]; exact r1 f hf, fun f hf => by rw [e _ (by omega)]; exact r2 f hf, fun f hf => by rw [e _ (by omega)]; exact r3 f hf, fun f hf => by rw [e _ (by omega)]; exact r4 f hf, fun f hf => by rw [e _ (by omega)]; exact r5 f hf⟩, by rw [e _ (by omega)]; exact h2, h3⟩
/-- the first of so many from lo on; none -/
def fstI (p : Nat → Bool) : Nat → Nat → Int32
  | _, 0 => -1
  | lo, d + 1 => if p lo then nI lo else fstI p (lo + 1) d
theorem fstI_t {p : Nat → Bool} {lo d : Nat} (h : p lo = true) : fstI p lo (d + 1) = nI lo := if_pos h
theorem fstI_f {p : Nat → Bool} {lo d : Nat} (h : ¬ p lo = true) : fstI p lo (d + 1) = fstI p (lo + 1) d := if_neg h
theorem ix71 {f : Nat} : (71 : Int32) + nI f = nI (70 + 1 + f) := by rw [show (71 : Int32) = nI 71 from rfl, nI_add]
theorem c_futK {P : Pl} (hP : plOk P) {wl hr k : Nat} {ld : Nat → Nat} {t : Tn} {flead vals gst hst : Nat → Int32} (hh : hr + k < 2 ^ 28) (hl : ∀ f, f < qF P → flead f = nI (ld f) ∧ ld f < 2 ^ 30) (hw : wl < 2 ^ 63) (ht : tOk P t) : zwp (f_X11_passFuture (sRun P wl ld hr t k).1 (nI (qF P)) (sRun P wl ld hr t k).2.2 (nI (hr + k)) flead (sRun P wl ld hr t k).2.1 (lN wl) vals (qDb P) (nI (qF P)) (qGc P) (nI (qGn P)) gst (nI (qH P)) (qHc P) (nI (qHn P)) hst (qLt P) (nI (qNl P)) (qSt P) (qWy P) (nI (qW P))) (fun r => r.1 = (sRun P wl ld hr t (k + 1)).1 ∧ r.2.1 = (sRun P wl ld hr t (k + 1)).2.2 ∧ r.2.2.1 = nI (hr + (k + 1)) ∧ r.2.2.2.1 = (sRun P wl ld hr t (k + 1)).2.1) := c_passFuture hP hh hl hw (sRun_ok hP ht k)
theorem m_hourK {P : Pl} (hP : plOk P) {mwl mways mlight mcode rows mtold mpile : Nat → Int32} {mga mha : Int32} {hr wl k : Nat} {ld : Nat → Nat} {t : Tn} (hm : mPl P mwl mways mlight mcode mga mha) (hR : rRow (qF P) 70 rows (hr + k) (sRun P wl ld hr t k).1 (sRun P wl ld hr t k).2.1 (sRun P wl ld hr t k).2.2 ld wl) (hh : hr + k < 2 ^ 28) (hl : ∀ f, f < qF P → ld f < 2 ^ 30) (ht : tOk P t) : zwp (f_X12_hourGoes (70 : Int32) mcode (qDb P) (-1 : Int32) (nI (qF P)) mga mha mlight (nI (qNl P)) mpile rows (nI (qH P)) mtold mwl mways (nI (qW P))) (fun r => rRow (qF P) 70 r.2.1 (hr + (k + 1)) (sRun P wl ld hr t (k + 1)).1 (sRun P wl ld hr t (k + 1)).2.1 (sRun P wl ld hr t (k + 1)).2.2 ld wl ∧ ∀ j, j < 70 → r.2.1 j = rows j) := m_hour70 hP hm hR hh hl (sRun_ok hP ht k)
theorem c_then {P : Pl} (hP : plOk P) {hr pn wl : Nat} {ncell nsore nheld nlead fcell fsore fheld flead vals gst hst : Nat → Int32} {ffig fhr fpn : Int32} {fwl : Int64} {rows : Nat → Int32} (hN : NowR P hr pn wl ncell nsore nheld nlead rows) {a1 a2 a3 : Int32} : zwp (f_X11_then a1 a2 a3 fcell ffig fheld fhr flead fpn fsore fwl vals ncell (nI (qF P)) nheld (nI hr) nlead (nI pn) nsore (lN wl) (qDb P) (nI (qF P)) (qGc P) (nI (qGn P)) gst (nI (qH P)) (qHc P) (nI (qHn P)) hst (qLt P) (nI (qNl P)) (qSt P) (qWy P) (nI (qW P))) (fun r => r.1 = toC (cond (okN (qF P) a1) (cond (okN (2 + 1) a3) (cond (inR 0 100 a2) (.inl (if a3 = 0 then (sRun P wl (fun _ => 0) hr (tCp ncell nsore nheld fcell fsore fheld) a2.toNatClampNeg).1 a1.toNatClampNeg else if a3 = 1 then (sRun P wl (fun _ => 0) hr (tCp ncell nsore nheld fcell fsore fheld) a2.toNatClampNeg).2.1 a1.toNatClampNeg else (sRun P wl (fun _ => 0) hr (tCp ncell nsore nheld fcell fsore fheld) a2.toNatClampNeg).2.2 a1.toNatClampNeg)) (.inr true)) (.inr false)) (.inr false))) := by
  have hF := hP.2.2.2.2.1
  have hWH := hP.wh
  unfold f_X11_then
  refine zi_beq (c_checkFigure (F := qF P) (by omega)) ?_
  cases hc0 : okN (qF P) a1 with
  | false => exact zwi rfl
  | true =>
    refine zi_beq (c_checkWhat (n := 2) (by decide)) ?_
    cases hc1 : okN (2 + 1) a3 with
    | false => exact zwi rfl
    | true =>
      refine zi_beq (c_checkHours (lo := 0) (hi := 100) (by decide) (by decide)) ?_
      cases hc2 : inR 0 100 a2 with
      | false => exact zwi rfl
      | true =>
        obtain ⟨na1, ha1, rfl⟩ := okN_t hc0
        obtain ⟨na3, ha3, rfl⟩ := okN_t hc1
        obtain ⟨na2, la2, ha2, rfl⟩ := inR_t hc2
        rw [nI_clamp (show na1 < 2 ^ 31 by omega), nI_clamp (show na2 < 2 ^ 31 by omega)]
        refine zi_bind (zwp_mono (c_foresee hP (n := na2) (by omega) (by have := hN.2.2.1; omega) hN.2.2.2.2.2.2.2.2 (hN.wl63 hP) hN.tk) ?_)
        rintro ⟨o3, o4, o5, o6, o7, o8, o9, o10, o11, o12, o13⟩ ⟨e1, e2, e3, e4, e5, e6, e7⟩
        dsimp only at e1 e2 e3 e4 e5 e6 e7
        subst e1 e2 e3 e4 e6 e7
        refine zi_c (fun q => ?_) (fun q => zi_c (fun q2 => ?_) (fun q2 => ?_))
        · rw [zbnd_nI (by omega) (by decide)]
          refine zwi ?_
          rw [if_pos q]; rfl
        · rw [zbnd_nI (by omega) (by decide)]
          refine zwi ?_
          rw [if_neg q, if_pos q2]; rfl
        · rw [zbnd_nI (by omega) (by decide)]
          refine zwi ?_
          rw [if_neg q, if_neg q2]; rfl
theorem m_then {P : Pl} (hP : plOk P) {hr pn wl : Nat} {ncell nsore nheld nlead fcell fsore fheld : Nat → Int32} {mwl mways mlight mcode rows mtold mpile : Nat → Int32} {mga mha mthr : Int32} (hm : mPl P mwl mways mlight mcode mga mha) (hN : NowR P hr pn wl ncell nsore nheld nlead rows) {a1 a2 a3 : Int32} : zwp (f_X12_then a1 a2 a3 mcode (qDb P) (-1 : Int32) (nI (qF P)) mga mha mlight (nI (qNl P)) mpile rows (nI (qH P)) mthr mtold mwl mways (nI (qW P))) (fun r => r.1 = toV (cond (okN (qF P) a1) (cond (okN (2 + 1) a3) (cond (inR 0 100 a2) (.inl (if a3 = 0 then (sRun P wl (fun _ => 0) hr (tCp ncell nsore nheld fcell fsore fheld) a2.toNatClampNeg).1 a1.toNatClampNeg else if a3 = 1 then (sRun P wl (fun _ => 0) hr (tCp ncell nsore nheld fcell fsore fheld) a2.toNatClampNeg).2.1 a1.toNatClampNeg else (sRun P wl (fun _ => 0) hr (tCp ncell nsore nheld fcell fsore fheld) a2.toNatClampNeg).2.2 a1.toNatClampNeg)) (.inr true)) (.inr false)) (.inr false)) ∧ r.2.2.2.1 = toT (cond (okN (qF P) a1) (cond (okN (2 + 1) a3) (cond (inR 0 100 a2) (.inl (if a3 = 0 then (sRun P wl (fun _ => 0) hr (tCp ncell nsore nheld fcell fsore fheld) a2.toNatClampNeg).1 a1.toNatClampNeg else if a3 = 1 then (sRun P wl (fun _ => 0) hr (tCp ncell nsore nheld fcell fsore fheld) a2.toNatClampNeg).2.1 a1.toNatClampNeg else (sRun P wl (fun _ => 0) hr (tCp ncell nsore nheld fcell fsore fheld) a2.toNatClampNeg).2.2 a1.toNatClampNeg)) (.inr true)) (.inr false)) (.inr false)) ∧ ∀ k, k < 70 → r.2.2.1 k = rows k) := by
  have hF := hP.2.2.2.2.1
  have hWH := hP.wh
  unfold f_X12_then
  refine zi_beq (m_isFigure (F := qF P) (by omega)) ?_
  cases hc0 : okN (qF P) a1 with
  | false => exact zi_t rfl (zwi ⟨rfl, rfl, fun _ _ => rfl⟩)
  | true =>
    refine zi_f (by decide) ?_
    refine zi_beq (m_isWhat (n := 2) (by decide)) ?_
    cases hc1 : okN (2 + 1) a3 with
    | false => exact zi_t rfl (zwi ⟨rfl, rfl, fun _ _ => rfl⟩)
    | true =>
      refine zi_f (by decide) ?_
      refine zi_beq (m_isSoon (lo := 0) (w := 2) (by decide) (by decide)) ?_
      cases hc2 : inR 0 100 a2 with
      | false => exact zi_t rfl (zwi ⟨rfl, rfl, fun _ _ => rfl⟩)
      | true =>
        refine zi_f (by decide) ?_
        obtain ⟨na1, ha1, rfl⟩ := okN_t hc0
        obtain ⟨na3, ha3, rfl⟩ := okN_t hc1
        obtain ⟨na2, la2, ha2, rfl⟩ := inR_t hc2
        rw [nI_clamp (show na1 < 2 ^ 31 by omega), nI_clamp (show na2 < 2 ^ 31 by omega)]
        unfold f_X12_goesTo
        refine zi_bind (zi_bind (zwp_mono m_tries ?_))
        intro r0 ⟨t1, t2⟩
        have hR0 := rRow_tcp hP (fcell := fcell) (fsore := fsore) (fheld := fheld) hN.1 t2
        refine zi_bind (zwp_mono (m_hoursGo hP hm hR0 (by omega) (by have := hN.2.2.1; omega) (fun f _ => by omega) (tCp_ok hP hN.tk)) ?_)
        rintro ⟨q1, q2, q3⟩ ⟨g1, g2⟩
        dsimp only at g1 g2
        refine zwi ?_
        have fin : ∀ b, b + na1 < 69 → zwp (zbnd ((70 : Int32) + nI b + nI na1) 140 (some ((q2 ((70 : Int32) + nI b + nI na1).toNatClampNeg), q1, q2, (0 : Int32), q3))) (fun r => r.1 = q2 (70 + b + na1) ∧ r.2.2.2.1 = 0 ∧ ∀ k, k < 70 → r.2.2.1 k = rows k) := by
          intro b hb
          rw [show (70 : Int32) = nI 70 from rfl, nI_add, nI_add, zbnd_nI (by omega) (by decide), nI_clamp (by omega)]
          exact zwi ⟨rfl, rfl, fun k hk => (g2 k hk).trans (t1 k hk)⟩
        by_cases q : nI na3 = 0
        · rw [if_pos q, if_pos q]
          refine zi_beq rfl ?_
          refine zwp_mono (fin 1 (by omega)) ?_
          rintro r ⟨e1, e2, e3⟩
          exact ⟨by rw [e1]; exact g1.2.1 na1 ha1, e2, e3⟩
        · rw [if_neg q, if_neg q]
          by_cases q2 : nI na3 = 1
          · rw [if_pos q2, if_pos q2]
            refine zi_beq rfl ?_
            refine zwp_mono (fin 9 (by omega)) ?_
            rintro r ⟨e1, e2, e3⟩
            exact ⟨by rw [e1]; exact g1.2.2.1 na1 ha1, e2, e3⟩
          · rw [if_neg q2, if_neg q2]
            refine zi_beq rfl ?_
            refine zwp_mono (fin 17 (by omega)) ?_
            rintro r ⟨e1, e2, e3⟩
            exact ⟨by rw [e1]; exact g1.2.2.2.1 na1 ha1, e2, e3⟩
theorem c_comes {P : Pl} (hP : plOk P) {hr pn wl : Nat} {ncell nsore nheld nlead fcell fsore fheld flead vals gst hst : Nat → Int32} {ffig fhr fpn : Int32} {fwl : Int64} {rows : Nat → Int32} (hN : NowR P hr pn wl ncell nsore nheld nlead rows) {a1 a2 : Int32} : zwp (f_X11_comes a1 a2 fcell ffig fheld fhr flead fpn fsore fwl vals ncell (nI (qF P)) nheld (nI hr) nlead (nI pn) nsore (lN wl) (qDb P) (nI (qF P)) (qGc P) (nI (qGn P)) gst (nI (qH P)) (qHc P) (nI (qHn P)) hst (qLt P) (nI (qNl P)) (qSt P) (qWy P) (nI (qW P))) (fun r => r.1 = toN (cond (okN (qF P) a1) (cond (okN (qW P * qH P) a2) (some (fstI (fun k => (sRun P wl (fun _ => 0) hr (tCp ncell nsore nheld fcell fsore fheld) k).1 a1.toNatClampNeg == a2) 0 101)) none) none)) := by
  have hF := hP.2.2.2.2.1
  have hWH := hP.wh
  unfold f_X11_comes
  refine zi_beq (c_checkFigure (F := qF P) (by omega)) ?_
  cases hc0 : okN (qF P) a1 with
  | false => exact zwi rfl
  | true =>
    refine zi_beq (c_checkCell (W := qW P) (H := qH P) (by omega)) ?_
    cases hc1 : okN (qW P * qH P) a2 with
    | false => exact zwi rfl
    | true =>
      obtain ⟨na1, ha1, rfl⟩ := okN_t hc0
      obtain ⟨na2, ha2, rfl⟩ := okN_t hc1
      rw [nI_clamp (show na1 < 2 ^ 31 by omega)]
      refine zi_bind (zwp_mono (c_foresee hP (n := 0) (by omega) (by have := hN.2.2.1; omega) hN.2.2.2.2.2.2.2.2 (hN.wl63 hP) hN.tk) ?_)
      rintro ⟨o3, o4, o5, o6, o7, o8, o9, o10, o11, o12, o13⟩ ⟨e1, e2, e3, e4, e5, e6, e7⟩
      dsimp only at e1 e2 e3 e4 e5 e6 e7
      subst e1 e2 e3 e4 e6 e7
      generalize hp : (fun k => (sRun P wl (fun _ => 0) hr (tCp ncell nsore nheld fcell fsore fheld) k).1 na1 == nI na2) = p
      have hpk : ∀ k, p k = ((sRun P wl (fun _ => 0) hr (tCp ncell nsore nheld fcell fsore fheld) k).1 na1 == nI na2) := fun k => by rw [← hp]
      refine zl_bs (P := fun k a => (∃ v g h, a = (nI k, (sRun P wl (fun _ => 0) hr (tCp ncell nsore nheld fcell fsore fheld) k).1, (sRun P wl (fun _ => 0) hr (tCp ncell nsore nheld fcell fsore fheld) k).2.2, nI (hr + k), (sRun P wl (fun _ => 0) hr (tCp ncell nsore nheld fcell fsore fheld) k).2.1, v, g, h)) ∧ fstI p 0 101 = fstI p k (101 - k)) (Post := fun _ => fstI p 0 101 = -1) 101 (by decide) ⟨⟨o11, o12, o13, rfl⟩, rfl⟩ ?_ ?_ ?_
      · rintro k hk _ ⟨⟨v, g, h, rfl⟩, hfs⟩
        refine zi_f (by rw [show (100 : Int32) = nI 100 from rfl]; exact nI_nlt (by omega) (by omega)) ?_
        rw [zbnd_nI (by omega) (by decide)]
        rw [show 101 - k = (100 - k) + 1 by omega] at hfs
        refine zi_c (fun q => ?_) (fun q => ?_)
        · refine zwi ?_
          show Sum.inl (nI k) = toN (some _)
          rw [hfs, fstI_t (by rw [hpk]; simp [q])]; rfl
        · rw [fstI_f (lo := k) (by rw [hpk]; simp [q])] at hfs
          refine zi_bind (zwp_mono (c_futK hP (ld := fun _ => 0) (by have := hN.2.2.1; omega) (fun f hf => ⟨e5 f hf, by omega⟩) (hN.wl63 hP) (tCp_ok hP hN.tk)) ?_)
          rintro ⟨q1, q2, q3, q4, q5, q6, q7⟩ ⟨g1, g2, g3, g4⟩
          dsimp only at g1 g2 g3 g4
          subst g1 g2 g3 g4
          refine zwi ⟨⟨q5, q6, q7, by rw [nI_1]⟩, ?_⟩
          rw [hfs]; congr 1; omega
      · rintro _ ⟨⟨v, g, h, rfl⟩, hfs⟩
        exact zi_t (by decide) (zwi hfs)
      · rintro ⟨y1, y2, y3, y4, y5, y6, y7⟩ hfs
        refine zwi ?_
        rw [hfs]; rfl
theorem m_comes {P : Pl} (hP : plOk P) {hr pn wl : Nat} {ncell nsore nheld nlead fcell fsore fheld : Nat → Int32} {mwl mways mlight mcode rows mtold mpile : Nat → Int32} {mga mha mthr : Int32} (hm : mPl P mwl mways mlight mcode mga mha) (hN : NowR P hr pn wl ncell nsore nheld nlead rows) {a1 a2 : Int32} : zwp (f_X12_comes a1 a2 mcode (qDb P) (-1 : Int32) (nI (qF P)) mga mha mlight (nI (qNl P)) mpile rows (nI (qH P)) mthr mtold mwl mways (nI (qW P))) (fun r => r.1 = toW (cond (okN (qF P) a1) (cond (okN (qW P * qH P) a2) (some (fstI (fun k => (sRun P wl (fun _ => 0) hr (tCp ncell nsore nheld fcell fsore fheld) k).1 a1.toNatClampNeg == a2) 0 101)) none) none) ∧ r.2.2.2.1 = toU (cond (okN (qF P) a1) (cond (okN (qW P * qH P) a2) (some (fstI (fun k => (sRun P wl (fun _ => 0) hr (tCp ncell nsore nheld fcell fsore fheld) k).1 a1.toNatClampNeg == a2) 0 101)) none) none) ∧ ∀ k, k < 70 → r.2.2.1 k = rows k) := by
  have hF := hP.2.2.2.2.1
  have hWH := hP.wh
  unfold f_X12_comes
  refine zi_beq (m_isFigure (F := qF P) (by omega)) ?_
  cases hc0 : okN (qF P) a1 with
  | false => exact zi_t rfl (zwi ⟨rfl, rfl, fun _ _ => rfl⟩)
  | true =>
    refine zi_f (by decide) ?_
    refine zi_beq (m_isCell (W := qW P) (H := qH P) (by omega)) ?_
    cases hc1 : okN (qW P * qH P) a2 with
    | false => exact zi_t rfl (zwi ⟨rfl, rfl, fun _ _ => rfl⟩)
    | true =>
      refine zi_f (by decide) ?_
      obtain ⟨na1, ha1, rfl⟩ := okN_t hc0
      obtain ⟨na2, ha2, rfl⟩ := okN_t hc1
      rw [nI_clamp (show na1 < 2 ^ 31 by omega)]
      refine zi_bind (zwp_mono m_tries ?_)
      intro r0 ⟨t1, t2⟩
      have hR0 := rRow_tcp hP (fcell := fcell) (fsore := fsore) (fheld := fheld) hN.1 t2
      generalize hp : (fun k => (sRun P wl (fun _ => 0) hr (tCp ncell nsore nheld fcell fsore fheld) k).1 na1 == nI na2) = p
      have hpk : ∀ k, p k = ((sRun P wl (fun _ => 0) hr (tCp ncell nsore nheld fcell fsore fheld) k).1 na1 == nI na2) := fun k => by rw [← hp]
      refine zl_bs (P := fun k a => (∃ p r t, a = (nI k, p, r, t) ∧ rRow (qF P) 70 r (hr + k) (sRun P wl (fun _ => 0) hr (tCp ncell nsore nheld fcell fsore fheld) k).1 (sRun P wl (fun _ => 0) hr (tCp ncell nsore nheld fcell fsore fheld) k).2.1 (sRun P wl (fun _ => 0) hr (tCp ncell nsore nheld fcell fsore fheld) k).2.2 (fun _ => 0) wl ∧ ∀ j, j < 70 → r j = rows j) ∧ fstI p 0 101 = fstI p k (101 - k)) (Post := fun b => fstI p 0 101 = -1 ∧ ∀ j, j < 70 → b.2.1 j = rows j) 101 (by decide) ⟨⟨mpile, r0, mtold, rfl, hR0, t1⟩, rfl⟩ ?_ ?_ ?_
      · rintro k hk _ ⟨⟨p1, r, t, rfl, h1, h2⟩, hfs⟩
        refine zi_f (by rw [show (100 : Int32) = nI 100 from rfl]; exact nI_nlt (by omega) (by omega)) ?_
        rw [ix71, zbnd_nI (by omega) (by decide), nI_clamp (by omega), h1.2.1 na1 ha1]
        rw [show 101 - k = (100 - k) + 1 by omega] at hfs
        refine zi_c (fun q => ?_) (fun q => ?_)
        · refine zwi ⟨?_, rfl, h2⟩
          show nI k = fstI p 0 101
          rw [hfs, fstI_t (by rw [hpk]; simp [q])]
        · rw [fstI_f (lo := k) (by rw [hpk]; simp [q])] at hfs
          refine zi_bind (zwp_mono (m_hourK hP hm h1 (by have := hN.2.2.1; omega) (fun f _ => by omega) (tCp_ok hP hN.tk)) ?_)
          rintro ⟨q1, q2, q3⟩ ⟨g1, g2⟩
          dsimp only at g1 g2
          refine zwi ⟨⟨q1, q2, q3, by rw [nI_1], g1, fun j hj => (g2 j hj).trans (h2 j hj)⟩, ?_⟩
          rw [hfs]; congr 1; omega
      · rintro _ ⟨⟨p1, r, t, rfl, h1, h2⟩, hfs⟩
        exact zi_t (by decide) (zwi ⟨hfs, h2⟩)
      · rintro ⟨y1, y2, y3⟩ ⟨hfs, h2⟩
        refine zwi ⟨?_, rfl, h2⟩
        exact hfs.symm
