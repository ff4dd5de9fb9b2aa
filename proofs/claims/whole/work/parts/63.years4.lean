/-! YEARS (class) -/
theorem c_years {P : Pl} (hP : plOk P) {hr pn wl : Nat} {ncell nsore nheld nlead fcell fsore fheld flead vals gst hst : Nat → Int32} {ffig fhr fpn : Int32} {fwl : Int64} {rows : Nat → Int32} (hN : NowR P hr pn wl ncell nsore nheld nlead rows) {seed : Int32} {a1 a2 a3 : Int32} : zwp (f_X11_years a1 a2 a3 fcell ffig fheld fhr flead fpn fsore fwl vals ncell (nI (qF P)) nheld (nI hr) nlead (nI pn) nsore (lN wl) (qDb P) (nI (qF P)) (qGc P) (nI (qGn P)) gst (nI (qH P)) (qHc P) (nI (qHn P)) hst (qLt P) (nI (qNl P)) (qSt P) (qWy P) (nI (qW P)) seed) (fun r => r.1 = toC (cond (okN (2 + 1) a3) (cond (inR 0 100 a2) (.inl (if a3 = 0 then nI (sYr P wl hr a1 (tCp ncell nsore nheld fcell fsore fheld) a2.toNatClampNeg).2.2 else if a3 = 1 then sSum (sYr P wl hr a1 (tCp ncell nsore nheld fcell fsore fheld) a2.toNatClampNeg).2.1.2.1 (qF P) else nI (plN (sYr P wl hr a1 (tCp ncell nsore nheld fcell fsore fheld) a2.toNatClampNeg).2.1.1 (qF P)))) (.inr true)) (.inr false))) := by
  have hF := hP.2.2.2.2.1
  have hWH := hP.wh
  unfold f_X11_years
  refine zi_beq (c_checkWhat (n := 2) (by decide)) ?_
  cases hc0 : okN (2 + 1) a3 with
  | false => exact zwi rfl
  | true =>
    refine zi_beq (c_checkHours (lo := 0) (hi := 100) (by decide) (by decide)) ?_
    cases hc1 : inR 0 100 a2 with
    | false => exact zwi rfl
    | true =>
      obtain ⟨na3, ha3, rfl⟩ := okN_t hc0
      obtain ⟨na2, la2, ha2, rfl⟩ := inR_t hc1
      rw [nI_clamp (show na2 < 2 ^ 31 by omega)]
      refine zi_bind (zwp_mono (c_foresee hP (n := 0) (by omega) (by have := hN.2.2.1; omega) hN.2.2.2.2.2.2.2.2 (hN.wl63 hP) hN.tk) ?_)
      rintro ⟨o3, o4, o5, o6, o7, o8, o9, o10, o11, o12, o13⟩ ⟨e1, e2, e3, e4, e5, e6, e7⟩
      dsimp only at e1 e2 e3 e4 e5 e6 e7
      subst e1 e2 e3 e4 e6 e7
      have htk := fun k => sYr_ok hP (wl := wl) (hr := hr) (s := a1) (tCp_ok hP (fcell := fcell) (fsore := fsore) (fheld := fheld) hN.tk) k
      have hok : ∀ k f, f < qF P → ∃ c, (sYr P wl hr a1 (tCp ncell nsore nheld fcell fsore fheld) k).2.1.1 f = nI c ∧ c < 36 := fun k f hf => by
        obtain ⟨c, h1, h2⟩ := (htk k).1 f hf
        exact ⟨c, h1, by omega⟩
      have hr9 := hN.2.2.1
      refine zl_bind (P := fun k a => ∃ v g h, a = (nI (sYr P wl hr a1 (tCp ncell nsore nheld fcell fsore fheld) k).2.2, nI k, (sYr P wl hr a1 (tCp ncell nsore nheld fcell fsore fheld) k).2.1.1, (sYr P wl hr a1 (tCp ncell nsore nheld fcell fsore fheld) k).2.1.2.2, nI (hr + k), (sYr P wl hr a1 (tCp ncell nsore nheld fcell fsore fheld) k).2.1.2.1, v, g, h, (sYr P wl hr a1 (tCp ncell nsore nheld fcell fsore fheld) k).1)) (Post := fun b => ∃ v g h, b = (nI (sYr P wl hr a1 (tCp ncell nsore nheld fcell fsore fheld) na2).2.2, (sYr P wl hr a1 (tCp ncell nsore nheld fcell fsore fheld) na2).2.1.1, (sYr P wl hr a1 (tCp ncell nsore nheld fcell fsore fheld) na2).2.1.2.2, nI (hr + na2), (sYr P wl hr a1 (tCp ncell nsore nheld fcell fsore fheld) na2).2.1.2.1, v, g, h, (sYr P wl hr a1 (tCp ncell nsore nheld fcell fsore fheld) na2).1)) na2 (by omega) ⟨_, _, _, rfl⟩ ?_ ?_ ?_
      · rintro k hk _ ⟨v, g, h, rfl⟩
        refine zi_f (nI_ge hk (by omega)) ?_
        dsimp only
        have hS : (sYr P wl hr a1 (tCp ncell nsore nheld fcell fsore fheld) (k + 1)) = ((sFate P wl (sYr P wl hr a1 (tCp ncell nsore nheld fcell fsore fheld) k).1 (sYr P wl hr a1 (tCp ncell nsore nheld fcell fsore fheld) k).2.1).1, sHr P wl (fun _ => 0) (hr + k) (sDull P (hr + k)) (sFate P wl (sYr P wl hr a1 (tCp ncell nsore nheld fcell fsore fheld) k).1 (sYr P wl hr a1 (tCp ncell nsore nheld fcell fsore fheld) k).2.1).2, (sYr P wl hr a1 (tCp ncell nsore nheld fcell fsore fheld) k).2.2 + (if plN (sHr P wl (fun _ => 0) (hr + k) (sDull P (hr + k)) (sFate P wl (sYr P wl hr a1 (tCp ncell nsore nheld fcell fsore fheld) k).1 (sYr P wl hr a1 (tCp ncell nsore nheld fcell fsore fheld) k).2.1).2).1 (qF P) < qF P then 1 else 0)) := rfl
        have h1 := htk k
        have h2 := hok (k + 1)
        rw [hS] at h2
        generalize (sYr P wl hr a1 (tCp ncell nsore nheld fcell fsore fheld) (k + 1)) = Z at hS ⊢
        generalize (sYr P wl hr a1 (tCp ncell nsore nheld fcell fsore fheld) k) = Y at hS h1 h2 ⊢
        obtain ⟨ys, ⟨t1, t2, t3⟩, ym⟩ := Y
        dsimp only at hS h1 h2 ⊢
        have h3 := sFate_ok hP (wl := wl) (s := ys) h1
        have hd := c_drawFate (P := P) hP (s := ys) (cell := t1) (sore := t2) (held := t3) (hN.wl63 hP)
        generalize sFate P wl ys (t1, t2, t3) = W at hS h2 h3 hd
        obtain ⟨s2, u1, u2, u3⟩ := W
        dsimp only at hS h2 h3 hd
        refine zi_bind (zwp_mono hd ?_)
        rintro _ rfl
        dsimp only
        refine zi_bind (zwp_mono (c_passFuture hP (ld := fun _ => 0) (by omega) (fun f hf => ⟨e5 f hf, by omega⟩) (hN.wl63 hP) h3) ?_)
        rintro ⟨q1, q2, q3, q4, q5, q6, q7⟩ ⟨g1, g2, g3, g4⟩
        dsimp only at g1 g2 g3 g4
        generalize sHr P wl (fun _ => 0) (hr + k) (sDull P (hr + k)) (u1, u2, u3) = V at hS h2 g1 g2 g4
        obtain ⟨v1, v2, v3⟩ := V
        dsimp only at hS h2 g1 g2 g4
        subst g1 g2 g3 g4
        dsimp only
        refine zi_bind (zwp_mono (c_places hF h2) ?_)
        intro r48 e48
        refine zi_beq e48 ?_
        have hpl : plN q1 (qF P) ≤ 36 := fb_ct_le _ _
        by_cases q : plN q1 (qF P) < qF P
        · rw [if_pos q] at hS
          subst hS
          exact zi_f (nI_ge q (by omega)) (zwi ⟨_, _, _, by rw [nI_1, nI_1]; rfl⟩)
        · rw [if_neg q] at hS
          subst hS
          exact zi_t (nI_le (by omega) (by omega)) (zwi ⟨_, _, _, by rw [nI_1]; rfl⟩)
      · rintro _ ⟨v, g, h, rfl⟩
        exact zi_t (nI_le (Nat.le_refl _) (by omega)) (zwi ⟨v, g, h, rfl⟩)
      · rintro _ ⟨v, g, h, rfl⟩
        have h3 := hok na2
        generalize (sYr P wl hr a1 (tCp ncell nsore nheld fcell fsore fheld) na2) = Y at h3 ⊢
        refine zi_c (fun q => zwi (by rw [if_pos q]; rfl)) (fun q => ?_)
        rw [if_neg q]
        refine zi_c (fun q => ?_) (fun q => ?_)
        · rw [if_pos q]; exact zi_beq (c_soreOfAll hF) (zwi rfl)
        · rw [if_neg q]
          refine zi_bind (zwp_mono (c_places hF h3) ?_)
          intro r34 e34
          exact zi_beq e34 (zwi rfl)
