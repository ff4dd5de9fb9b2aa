/-! YEARS (reference) -/
theorem m_years {P : Pl} (hP : plOk P) {hr pn wl : Nat} {ncell nsore nheld nlead fcell fsore fheld : Nat → Int32} {mwl mways mlight mcode rows mtold mpile : Nat → Int32} {mga mha mthr : Int32} (hm : mPl P mwl mways mlight mcode mga mha) (hN : NowR P hr pn wl ncell nsore nheld nlead rows) {mits : Int32} {a1 a2 a3 : Int32} : zwp (f_X12_years a1 a2 a3 mcode (qDb P) (-1 : Int32) (nI (qF P)) mga mha mits mlight (nI (qNl P)) mpile rows (nI (qH P)) mthr mtold mwl mways (nI (qW P))) (fun r => r.1 = toV (cond (okN (2 + 1) a3) (cond (inR 0 100 a2) (.inl (if a3 = 0 then nI (sYr P wl hr a1 (tCp ncell nsore nheld fcell fsore fheld) a2.toNatClampNeg).2.2 else if a3 = 1 then sSum (sYr P wl hr a1 (tCp ncell nsore nheld fcell fsore fheld) a2.toNatClampNeg).2.1.2.1 (qF P) else nI (plN (sYr P wl hr a1 (tCp ncell nsore nheld fcell fsore fheld) a2.toNatClampNeg).2.1.1 (qF P)))) (.inr true)) (.inr false)) ∧ r.2.2.2.2.1 = toT (cond (okN (2 + 1) a3) (cond (inR 0 100 a2) (.inl (if a3 = 0 then nI (sYr P wl hr a1 (tCp ncell nsore nheld fcell fsore fheld) a2.toNatClampNeg).2.2 else if a3 = 1 then sSum (sYr P wl hr a1 (tCp ncell nsore nheld fcell fsore fheld) a2.toNatClampNeg).2.1.2.1 (qF P) else nI (plN (sYr P wl hr a1 (tCp ncell nsore nheld fcell fsore fheld) a2.toNatClampNeg).2.1.1 (qF P)))) (.inr true)) (.inr false)) ∧ ∀ k, k < 70 → r.2.2.2.1 k = rows k) := by
  have hF := hP.2.2.2.2.1
  have hWH := hP.wh
  unfold f_X12_years
  refine zi_beq (m_isWhat (n := 2) (by decide)) ?_
  cases hc0 : okN (2 + 1) a3 with
  | false => exact zi_t rfl (zwi ⟨rfl, rfl, fun _ _ => rfl⟩)
  | true =>
    refine zi_f (by decide) ?_
    refine zi_beq (m_isSoon (lo := 0) (w := 2) (by decide) (by decide)) ?_
    cases hc1 : inR 0 100 a2 with
    | false => exact zi_t rfl (zwi ⟨rfl, rfl, fun _ _ => rfl⟩)
    | true =>
      refine zi_f (by decide) ?_
      obtain ⟨na3, ha3, rfl⟩ := okN_t hc0
      obtain ⟨na2, la2, ha2, rfl⟩ := inR_t hc1
      rw [nI_clamp (show na2 < 2 ^ 31 by omega)]
      refine zi_bind (zwp_mono m_tries ?_)
      intro r0 ⟨t1, t2⟩
      have hR0 := rRow_tcp hP (fcell := fcell) (fsore := fsore) (fheld := fheld) hN.1 t2
      have htk := fun k => sYr_ok hP (wl := wl) (hr := hr) (s := a1) (tCp_ok hP (fcell := fcell) (fsore := fsore) (fheld := fheld) hN.tk) k
      have hok : ∀ k f, f < qF P → ∃ c, (sYr P wl hr a1 (tCp ncell nsore nheld fcell fsore fheld) k).2.1.1 f = nI c ∧ c < 36 := fun k f hf => by
        obtain ⟨c, h1, h2⟩ := (htk k).1 f hf
        exact ⟨c, h1, by omega⟩
      have hr9 := hN.2.2.1
      refine zl_bind (P := fun k a => ∃ p r t, a = (nI (sYr P wl hr a1 (tCp ncell nsore nheld fcell fsore fheld) k).2.2, nI k, (sYr P wl hr a1 (tCp ncell nsore nheld fcell fsore fheld) k).1, p, r, t) ∧ rRow (qF P) 70 r (hr + k) (sYr P wl hr a1 (tCp ncell nsore nheld fcell fsore fheld) k).2.1.1 (sYr P wl hr a1 (tCp ncell nsore nheld fcell fsore fheld) k).2.1.2.1 (sYr P wl hr a1 (tCp ncell nsore nheld fcell fsore fheld) k).2.1.2.2 (fun _ => 0) wl ∧ ∀ j, j < 70 → r j = rows j) (Post := fun b => ∃ p r t, b = (nI (sYr P wl hr a1 (tCp ncell nsore nheld fcell fsore fheld) na2).2.2, (sYr P wl hr a1 (tCp ncell nsore nheld fcell fsore fheld) na2).1, p, r, t) ∧ rRow (qF P) 70 r (hr + na2) (sYr P wl hr a1 (tCp ncell nsore nheld fcell fsore fheld) na2).2.1.1 (sYr P wl hr a1 (tCp ncell nsore nheld fcell fsore fheld) na2).2.1.2.1 (sYr P wl hr a1 (tCp ncell nsore nheld fcell fsore fheld) na2).2.1.2.2 (fun _ => 0) wl ∧ ∀ j, j < 70 → r j = rows j) na2 (by omega) ⟨_, _, _, rfl, hR0, t1⟩ ?_ ?_ ?_
      · rintro k hk _ ⟨p, r, t, rfl, hR, hfr⟩
        refine zi_f (nI_ge hk (by omega)) ?_
        dsimp only
        have hS : (sYr P wl hr a1 (tCp ncell nsore nheld fcell fsore fheld) (k + 1)) = ((sFate P wl (sYr P wl hr a1 (tCp ncell nsore nheld fcell fsore fheld) k).1 (sYr P wl hr a1 (tCp ncell nsore nheld fcell fsore fheld) k).2.1).1, sHr P wl (fun _ => 0) (hr + k) (sDull P (hr + k)) (sFate P wl (sYr P wl hr a1 (tCp ncell nsore nheld fcell fsore fheld) k).1 (sYr P wl hr a1 (tCp ncell nsore nheld fcell fsore fheld) k).2.1).2, (sYr P wl hr a1 (tCp ncell nsore nheld fcell fsore fheld) k).2.2 + (if plN (sHr P wl (fun _ => 0) (hr + k) (sDull P (hr + k)) (sFate P wl (sYr P wl hr a1 (tCp ncell nsore nheld fcell fsore fheld) k).1 (sYr P wl hr a1 (tCp ncell nsore nheld fcell fsore fheld) k).2.1).2).1 (qF P) < qF P then 1 else 0)) := rfl
        have h1 := htk k
        have h2 := hok (k + 1)
        rw [hS] at h2
        generalize (sYr P wl hr a1 (tCp ncell nsore nheld fcell fsore fheld) (k + 1)) = Z at hS ⊢
        generalize (sYr P wl hr a1 (tCp ncell nsore nheld fcell fsore fheld) k) = Y at hS h1 h2 hR ⊢
        obtain ⟨ys, ⟨t1, t2, t3⟩, ym⟩ := Y
        dsimp only at hS h1 h2 hR ⊢
        have h3 := sFate_ok hP (wl := wl) (s := ys) h1
        have hd := m_happens hP (s := ys) (t := (t1, t2, t3)) hR
        generalize sFate P wl ys (t1, t2, t3) = W at hS h2 h3 hd
        obtain ⟨s2, u1, u2, u3⟩ := W
        dsimp only at hS h2 h3 hd
        refine zi_bind (zwp_mono hd ?_)
        rintro ⟨o29, o30⟩ ⟨a1', a2', a3'⟩
        dsimp only at a1' a2' a3' ⊢
        subst a1'
        refine zi_bind (zwp_mono (m_hour70 hP hm (t := (u1, u2, u3)) a2' (by omega) (fun f _ => by omega) h3) ?_)
        rintro ⟨q1, q2, q3⟩ ⟨g1, g2⟩
        dsimp only at g1 g2 ⊢
        have hfr2 : ∀ j, j < 70 → q2 j = rows j := fun j hj => (g2 j hj).trans ((a3' j hj).trans (hfr j hj))
        have hlt := plN_lt h2
        generalize sHr P wl (fun _ => 0) (hr + k) (sDull P (hr + k)) (u1, u2, u3) = u at hS h2 g1 hlt
        refine zl_bind (P := fun i a => ∃ m, a = (nI m, nI i) ∧ m ≤ 8 ∧ (0 < m ↔ ∃ f, f < i ∧ 0 < sWith (qF P) u.1 f)) (Post := fun b => ∃ m, b = nI m ∧ m ≤ 8 ∧ (0 < m ↔ ∃ f, f < qF P ∧ 0 < sWith (qF P) u.1 f)) (qF P) (by omega) ⟨0, rfl, by omega, ⟨fun h => by omega, fun ⟨f, hf, _⟩ => by omega⟩⟩ ?_ ?_ ?_
        · rintro i hi _ ⟨m, rfl, hm8, hmi⟩
          refine zi_f (nI_ge hi (by omega)) ?_
          refine zi_beq (m_withIt (b := 70) hF hi (Nat.le_refl _) g1.2.1) ?_
          have hle : sWith (qF P) u.1 i ≤ qF P := Nat.le_trans (Nat.sub_le _ _) (fb_ct_le _ _)
          dsimp only
          by_cases c : sWith (qF P) u.1 i ≤ m
          · refine zi_bind (zi_t (nI_le c (by omega)) (zwi (zwi ⟨m, by rw [nI_1], hm8, hmi.trans ⟨?_, ?_⟩⟩)))
            · rintro ⟨f, h1, h2⟩; exact ⟨f, by omega, h2⟩
            · rintro ⟨f, h1, h2⟩
              by_cases e : f = i
              · subst e; exact hmi.mp (by omega)
              · exact ⟨f, by omega, h2⟩
          · refine zi_bind (zi_f (nI_ge (by omega) (by omega)) ?_)
            refine zi_beq (m_withIt (b := 70) hF hi (Nat.le_refl _) g1.2.1) (zwi (zwi ⟨sWith (qF P) u.1 i, by rw [nI_1], by omega, ⟨fun h => ⟨i, by omega, h⟩, fun _ => by omega⟩⟩))
        · rintro _ ⟨m, rfl, hm8, hmi⟩
          exact zi_t (nI_le (Nat.le_refl _) (by omega)) (zwi ⟨m, rfl, hm8, hmi⟩)
        · rintro _ ⟨m, rfl, hm8, hmi⟩
          by_cases q : plN u.1 (qF P) < qF P
          · rw [if_pos q] at hS
            subst hS
            refine zi_bind (zi_f (nI_ge (a := 0) (hmi.mpr (hlt.mp q)) (by omega)) (zwi (zwi ⟨_, _, _, by rw [nI_1, nI_1], g1, hfr2⟩)))
          · rw [if_neg q] at hS
            subst hS
            refine zi_bind (zi_t (nI_le (b := 0) (a := m) (Nat.le_of_not_lt (fun h => q (hlt.mpr (hmi.mp h)))) (by omega)) (zwi (zwi ⟨_, _, _, by rw [nI_1, Int32.add_zero]; rfl, g1, hfr2⟩)))
      · rintro _ ⟨p, r, t, rfl, hR, hfr⟩
        exact zi_t (nI_le (Nat.le_refl _) (by omega)) (zwi ⟨p, r, t, rfl, hR, hfr⟩)
      · rintro _ ⟨p, r, t, rfl, hR, hfr⟩
        generalize (sYr P wl hr a1 (tCp ncell nsore nheld fcell fsore fheld) na2) = Y at hR ⊢
        refine zl_bind (P := fun k a => a = (nI (fb_ct (fun j => anyB (fun f => Y.2.1.1 f == nI j) (qF P)) k), nI k)) (Post := fun b => b = nI (fb_ct (fun j => anyB (fun f => Y.2.1.1 f == nI j) (qF P)) 36)) 36 (by decide) rfl ?_ ?_ ?_
        · rintro k hk _ rfl
          refine zi_f (by rw [show (36 : Int32) = nI 36 from rfl]; exact nI_ge hk (by decide)) ?_
          refine zi_beq (m_atCell (b := 70) hF (Nat.le_refl _) hR.2.1) ?_
          cases hq : anyB (fun f => Y.2.1.1 f == nI k) (qF P) with
          | true =>
            refine zi_bind (zi_f (fun e => by rw [(nI_bts0 hF).mp e] at hq; cases hq) (zwi (zwi ?_)))
            show (_, _) = (_, _)
            rw [fb_ct_succ, if_pos hq, nI_1, nI_1]
          | false =>
            refine zi_bind (zi_t ((nI_bts0 hF).mpr hq) (zwi (zwi ?_)))
            show (_, _) = (_, _)
            rw [fb_ct_succ, if_neg (by rw [hq]; decide), nI_1, Int32.add_zero]; rfl
        · rintro _ rfl
          exact zi_t (show (36 : Int32) ≤ nI 36 by decide) (zwi rfl)
        · intro b e
          refine zi_c (fun q => zwi ⟨by rw [if_pos q]; rfl, rfl, hfr⟩) (fun q => ?_)
          rw [if_neg q]
          refine zi_c (fun q => ?_) (fun q => ?_)
          · rw [if_pos q]
            refine zi_beq (m_sumOf (a := 70) (b := 9) (n := qF P) (by omega)) (zwi ⟨?_, rfl, hfr⟩)
            exact sSum_cg (fun k hk => hR.2.2.1 k hk)
          · rw [if_neg q]
            exact zwi ⟨e, rfl, hfr⟩
