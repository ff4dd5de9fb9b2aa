/-! AHEAD, LOOK: the class -/
theorem c_fillL {v : Int64} {fr : Nat → Int64} {n : Nat} (hn : n < 2 ^ 31) : zwp (f_J7_fill_d0a16 v n fr) (fun r => ∀ j, j < n → r j = v) := by
  unfold f_J7_fill_d0a16
  refine zl_bind (P := fun k a => ∃ r, a = (nI k, r) ∧ ∀ j, j < k → r j = v) (Post := fun r => ∀ j, j < n → r j = v) n (by omega) ⟨fr, rfl, fun j hj => by omega⟩ ?_ ?_ ?_
  · rintro k hk _ ⟨r, rfl, h⟩
    refine zi_f (by rw [show Int32.ofNat n = nI n from rfl]; exact nI_ge hk (by omega)) ?_
    rw [zbnd_nI (by omega) (by omega), nI_clamp (by omega), nI_1]
    refine zwi ⟨_, rfl, fun j hj => ?_⟩
    by_cases q : j = k
    · subst q; rw [pk_uLs]
    · rw [pk_uLn q]; exact h j (by omega)
  · rintro _ ⟨r, rfl, h⟩
    exact zi_t (by rw [show Int32.ofNat n = nI n from rfl]; exact nI_le (Nat.le_refl _) (by omega)) (zwi h)
  · intro r h; exact zwi h
theorem ldG_eq {P : Pl} (hP : plOk P) {f l : Nat} {nlead tl : Nat → Int32} (hl : l < 10) (hn : ∀ f, f < qF P → nlead f = nI 0) : ∀ g, g < qF P → upd (va_cpy nlead tl 0 0 8) f (nI l) g = nI (ldG (10 * f + l) g) ∧ ldG (10 * f + l) g < 2 ^ 30 := by
  have hF := hP.2.2.2.2.1
  intro g hg
  have e1 : (10 * f + l) / 10 = f := by omega
  have e2 : (10 * f + l) % 10 = l := by omega
  unfold ldG
  rw [e1, e2]
  by_cases q : g = f
  · subst q
    rw [pk_us, if_pos rfl]
    exact ⟨rfl, by omega⟩
  · rw [pk_un q, if_neg q, cpy8 (by omega), hn g hg]
    exact ⟨rfl, by decide⟩
theorem c_search {P : Pl} (hP : plOk P) {hr pn wl : Nat} {ncell nsore nheld nlead vals gst hst : Nat → Int32} {rows : Nat → Int32} (hN : NowR P hr pn wl ncell nsore nheld nlead rows) {nn : Nat} {dfig dcell dhrs mnoted : Nat → Int32} (hNo : NoteR P nn dfig dcell dhrs mnoted) {gf gm : Int32} {gpl : Nat → Int64} {tc th tl ts : Nat → Int32} {tf thr tp : Int32} {tw : Int64} : zwp (f_X1_search dcell dfig dhrs (nI nn) gf gm vals gpl (qDb P) (nI (qF P)) (qGc P) (nI (qGn P)) gst (nI (qH P)) (qHc P) (nI (qHn P)) hst (qLt P) (nI (qNl P)) (qSt P) (qWy P) (nI (qW P)) ncell (nI (qF P)) nheld (nI hr) nlead (nI pn) nsore (lN wl) tc tf th thr tl tp ts tw) (fun r => r.1 = fsA (gOk P wl hr (ncell, nsore, nheld) nn dfig dcell dhrs) (10 * qF P) ∧ r.2.1 = nI (fb_ct (gOk P wl hr (ncell, nsore, nheld) nn dfig dcell dhrs) (10 * qF P)) ∧ PlR (gOk P wl hr (ncell, nsore, nheld) nn dfig dcell dhrs) (c5 P wl hr (ncell, nsore, nheld)) (qF P) (10 * qF P) r.2.2.2.1) := by
  have hF := hP.2.2.2.2.1
  have hWH := hP.wh
  have hr9 := hN.2.2.1
  have htk0 := hN.tk
  obtain ⟨p, hp⟩ : ∃ p, p = (gOk P wl hr (ncell, nsore, nheld) nn dfig dcell dhrs) := ⟨_, rfl⟩
  obtain ⟨c, hc⟩ : ∃ c, c = (c5 P wl hr (ncell, nsore, nheld)) := ⟨_, rfl⟩
  rw [← hp, ← hc]
  unfold f_X1_search
  refine zi_bind (zwp_mono (c_fillL (by decide)) ?_)
  intro o1 h1
  refine zl_bind (P := fun f a => a.1 = nI f ∧ a.2.1 = fsA p (10 * f) ∧ a.2.2.1 = nI (fb_ct p (10 * f)) ∧ PlR p c (qF P) (10 * f) a.2.2.2.2.1) (Post := fun b => b.1 = fsA p (10 * qF P) ∧ b.2.1 = nI (fb_ct p (10 * qF P)) ∧ PlR p c (qF P) (10 * qF P) b.2.2.2.1) (qF P) (by omega) ⟨rfl, rfl, rfl, fun j hj => ⟨0, by show o1 j = _; rw [h1 j (by omega)]; rfl, by decide, fun k hk => Nat.zero_testBit k⟩⟩ ?_ ?_ ?_
  · rintro f hf ⟨x2, x4, x5, x6, x7, x8, x9, x10, x11, x12, x13, x14, x15, x16, x17⟩ ⟨e2, e4, e5, e7⟩
    dsimp only at e2 e4 e5 e7
    subst e2
    refine zi_f (nI_ge hf (by omega)) ?_
    obtain ⟨s, hs, hs0, hs8, _⟩ := hP.2.2.2.2.2.2.1 f hf
    refine zl_bind (P := fun l a => a.1 = nI l ∧ a.2.1 = fsA p (10 * f + l) ∧ a.2.2.1 = nI (fb_ct p (10 * f + l)) ∧ PlR p c (qF P) (10 * f + l) a.2.2.2.2.1) (Post := fun b => b.1 = fsA p (10 * f + s) ∧ b.2.1 = nI (fb_ct p (10 * f + s)) ∧ PlR p c (qF P) (10 * f + s) b.2.2.2.1) s (by omega) ⟨rfl, e4, e5, e7⟩ ?_ ?_ ?_
    · rintro l hl ⟨x34, x35, x36, x37, x38, x39, x40, x41, x42, x43, x44, x45, x46, x47, x48⟩ ⟨e34, e35, e36, e38⟩
      dsimp only at e34 e35 e36 e38
      subst e34
      have d1 : (10 * f + l) / 10 = f := by omega
      have d2 : (10 * f + l) % 10 = l := by omega
      have hpv : p (10 * f + l) = (!(l == 0) && sHold P wl hr (ncell, nsore, nheld) nn dfig dcell dhrs (ldG (10 * f + l))) := by
        rw [hp]
        unfold gOk
        rw [d1, d2, hs, decide_eq_true (nI_ge hl (by omega)), Bool.true_and]
      have hle : fb_ct p (10 * f + l) ≤ 10 * f + l := fb_ct_le _ _
      dsimp only
      rw [zbnd_nI (by omega) (by decide), nI_clamp (show f < 2 ^ 31 by omega), hs]
      refine zi_f (nI_ge hl (by omega)) ?_
      rw [zbnd_nI (by omega) (by decide), hN.2.2.2.2.2.2.2.2 f hf]
      by_cases hl0 : l = 0
      · subst hl0
        have hpf : p (10 * f + 0) = false := by rw [hpv]; rfl
        have sk := ct_skip (p := p) (n := 10 * f + 0) 1 (fun g g1 g2 => by rw [show g = 10 * f + 0 by omega]; exact hpf)
        refine zi_t rfl (zwi ⟨by rw [nI_1], ?_, ?_, ?_⟩)
        · exact e35.trans sk.2.1.symm
        · exact e36.trans (congrArg nI sk.1.symm)
        · exact PlR_skip (n := 10 * f + 0) (d := 1) (fun g g1 g2 => by rw [show g = 10 * f + 0 by omega]; exact hpf) e38
      refine zi_f (nI_ne (by omega) (by decide) hl0) ?_
      rw [show (!(l == 0)) = true by rw [beq_false_of_ne hl0]; rfl, Bool.true_and] at hpv
      unfold f_X8_copyFrom
      refine zi_beq rfl ?_
      dsimp only
      rw [zbnd_nI (by omega) (by decide)]
      have hld := ldG_eq hP (f := f) (l := l) (tl := x45) (by omega) hN.2.2.2.2.2.2.2.2
      refine zi_bind (zwp_mono (c_holdsAll hP (t := tCp ncell nsore nheld x41 x47 x43) (ld := ldG (10 * f + l)) hNo (by omega) hld (hN.wl63 hP) (tCp_ok hP htk0)) ?_)
      rintro ⟨r79, o72, o73, o74, o75, o76, o77, o78⟩ e
      dsimp only at e
      rw [sHold_cg hP hNo (tCp_eq hF), ← hpv] at e
      subst e
      cases hq : p (10 * f + l) with
      | false =>
        have sk := ct_skip (p := p) (n := 10 * f + l) 1 (fun g g1 g2 => by rw [show g = 10 * f + l by omega]; exact hq)
        refine zi_t rfl (zwi ⟨by rw [nI_1], ?_, ?_, ?_⟩)
        · exact e35.trans sk.2.1.symm
        · exact e36.trans (congrArg nI sk.1.symm)
        · exact PlR_skip (n := 10 * f + l) (d := 1) (fun g g1 g2 => by rw [show g = 10 * f + l by omega]; exact hq) e38
      | true =>
        refine zi_f (show ¬ b2 true = 0 by decide) ?_
        refine zi_bind (zwp_mono (Q := fun v => v = fsA p (10 * f + l + 1)) ?_ ?_)
        · rw [e36]
          refine zi_c (fun q => zwi ?_) (fun q => zwi ?_)
          · rw [fsA_0 hq ((nI_z0 (by omega)).mp q), show (10 : Int32) = nI 10 from rfl, pk_mul, nI_add]
          · rw [fsA_1 (fun e => q ((nI_z0 (by omega)).mpr e))]; exact e35
        intro j80 e80
        subst e80
        refine zi_beq rfl ?_
        dsimp only
        rw [zbnd_nI (by omega) (by decide)]
        have hld2 := ldG_eq hP (f := f) (l := l) (tl := upd (va_cpy nlead x45 0 0 8) f (nI l)) (by omega) hN.2.2.2.2.2.2.2.2
        refine zi_bind (zwp_mono (c_addPlaces hP (t := tCp ncell nsore nheld o75 o78 o76) (ld := ldG (10 * f + l)) (by omega) hld2 (hN.wl63 hP) (tCp_ok hP htk0)) ?_)
        rintro ⟨o89, o90, o91, o92, o93, o94, o95, o96⟩ h90
        dsimp only at h90 ⊢
        refine zwi ⟨by rw [nI_1], rfl, ?_, fun j hj => ?_⟩
        · show x36 + 1 = nI (fb_ct p (10 * f + l + 1))
          rw [e36, nI_1, fb_ct_succ, if_pos hq]
        · obtain ⟨S, s1, s2, s3⟩ := e38 j hj
          have hcj : (sRun P wl (ldG (10 * f + l)) hr (tCp ncell nsore nheld o75 o78 o76) 5).1 j = c (10 * f + l) j := by
            rw [hc]
            exact (sRun_cg hP (tCp_eq hF) 5 j hj).1
          obtain ⟨cc, c1, c2⟩ := (sRun_ok hP (wl := wl) (ld := ldG (10 * f + l)) (hr := hr) (tCp_ok hP (fcell := o75) (fsore := o78) (fheld := o76) htk0) 5).1 j hj
          rw [hcj] at c1
          have hbp := bit_put s2 (show cc < 36 by omega) s3
          refine ⟨S ||| 2 ^ cc, ?_, hbp.2.1, fun k hk => ?_⟩
          · show o90 j = _
            rw [h90 j hj, hcj, c1, s1, hbp.1]
          · rw [hbp.2.2 k hk]
            show _ = (gAt p c j (10 * f + l) k || (p (10 * f + l) && (c (10 * f + l) j == nI k)))
            rw [hq, c1, Bool.true_and]
    · rintro ⟨x34, x35, x36, x37, x38, x39, x40, x41, x42, x43, x44, x45, x46, x47, x48⟩ ⟨e34, e35, e36, e38⟩
      dsimp only at e34 e35 e36 e38
      subst e34
      dsimp only
      rw [zbnd_nI (by omega) (by decide), nI_clamp (show f < 2 ^ 31 by omega), hs]
      exact zi_t (nI_le (Nat.le_refl _) (by omega)) (zwi ⟨e35, e36, e38⟩)
    · rintro ⟨y50, y51, y52, y53, y54, y55, y56, y57, y58, y59, y60, y61, y62, y63⟩ ⟨h1, h2, h3⟩
      dsimp only at h1 h2 h3
      have hsk : ∀ g, 10 * f + s ≤ g → g < 10 * f + s + (10 - s) → p g = false := fun g g1 g2 => by
        rw [hp]
        unfold gOk
        rw [show g / 10 = f by omega, hs, decide_eq_false (fun h => h (nI_le (show s ≤ g % 10 by omega) (by omega)))]
        rfl
      have sk := ct_skip (10 - s) hsk
      have sp := PlR_skip hsk h3
      rw [show 10 * f + s + (10 - s) = 10 * (f + 1) by omega] at sk sp
      exact zwi ⟨by rw [nI_1], h1.trans sk.2.1.symm, by rw [sk.1]; exact h2, sp⟩
  · rintro ⟨x2, x4, x5, x6, x7, x8, x9, x10, x11, x12, x13, x14, x15, x16, x17⟩ ⟨e2, e4, e5, e7⟩
    dsimp only at e2 e4 e5 e7
    subst e2
    exact zi_t (nI_le (Nat.le_refl _) (by omega)) (zwi ⟨e4, e5, e7⟩)
  · rintro ⟨y50, y51, y52, y53, y54, y55, y56, y57, y58, y59, y60, y61, y62, y63⟩ h
    exact zwi h
theorem c_ahead {P : Pl} (hP : plOk P) {hr pn wl : Nat} {ncell nsore nheld nlead fcell fsore fheld flead vals gst hst : Nat → Int32} {ffig fhr fpn : Int32} {fwl : Int64} {rows : Nat → Int32} (hN : NowR P hr pn wl ncell nsore nheld nlead rows) {nn : Nat} {dfig dcell dhrs mnoted : Nat → Int32} (hNo : NoteR P nn dfig dcell dhrs mnoted) {gf gm : Int32} {gpl : Nat → Int64} {tc th tl ts : Nat → Int32} {tf thr tp : Int32} {tw : Int64} {a1 : Int32} : zwp (f_X11_ahead a1 dcell dfig dhrs (nI nn) fcell ffig fheld fhr flead fpn fsore fwl gf gm gpl tc tf th thr tl tp ts tw vals ncell (nI (qF P)) nheld (nI hr) nlead (nI pn) nsore (lN wl) (qDb P) (nI (qF P)) (qGc P) (nI (qGn P)) gst (nI (qH P)) (qHc P) (nI (qHn P)) hst (qLt P) (nI (qNl P)) (qSt P) (qWy P) (nI (qW P))) (fun r => r.1 = toN (cond (okN (2 + 1) a1) (some (if a1 = 2 then b2 (sHold P wl hr (ncell, nsore, nheld) nn dfig dcell dhrs (fun _ => 0)) else if a1 = 0 then nI (fb_ct (gOk P wl hr (ncell, nsore, nheld) nn dfig dcell dhrs) (10 * qF P)) else fsA (gOk P wl hr (ncell, nsore, nheld) nn dfig dcell dhrs) (10 * qF P))) none)) := by
  have hF := hP.2.2.2.2.1
  have hWH := hP.wh
  have hr9 := hN.2.2.1
  unfold f_X11_ahead
  refine zi_beq (c_checkWhat (n := 2) (by decide)) ?_
  cases hc0 : okN (2 + 1) a1 with
  | false => exact zwi rfl
  | true =>
    dsimp only
    refine zi_c (fun q => ?_) (fun q => ?_)
    · rw [if_pos q]
      unfold f_X8_copyFrom
      refine zi_beq rfl ?_
      dsimp only
      refine zi_bind (zwp_mono (c_holdsAll hP (t := tCp ncell nsore nheld fcell fsore fheld) (ld := fun _ => 0) hNo (by omega) (fun f hf => ⟨by rw [cpy8 (by omega)]; exact hN.2.2.2.2.2.2.2.2 f hf, by decide⟩) (hN.wl63 hP) (tCp_ok hP hN.tk)) ?_)
      rintro ⟨r31, o24, o25, o26, o27, o28, o29, o30⟩ e
      dsimp only at e
      rw [sHold_cg hP hNo (tCp_eq hF)] at e
      subst e
      generalize (sHold P wl hr (ncell, nsore, nheld) nn dfig dcell dhrs (fun _ => 0)) = B
      cases B with
      | false => exact zi_t rfl (zwi rfl)
      | true => exact zi_f (show ¬ b2 true = 0 by decide) (zwi rfl)
    · rw [if_neg q]
      refine zi_bind (zwp_mono (c_search hP hN hNo) ?_)
      rintro ⟨o2, o3, o4, o5, o6, o7, o8, o9, o10, o11, o12, o13, o14, o15⟩ ⟨h1, h2, h3⟩
      dsimp only at h1 h2
      subst h1 h2
      exact zi_c (fun q => zwi (by rw [if_pos q]; rfl)) (fun q => zwi (by rw [if_neg q]; rfl))
theorem c_look {P : Pl} (hP : plOk P) {hr pn wl : Nat} {ncell nsore nheld nlead vals gst hst : Nat → Int32} {rows : Nat → Int32} (hN : NowR P hr pn wl ncell nsore nheld nlead rows) {nn : Nat} {dfig dcell dhrs mnoted : Nat → Int32} (hNo : NoteR P nn dfig dcell dhrs mnoted) {gf gm : Int32} {gpl : Nat → Int64} {tc th tl ts : Nat → Int32} {tf thr tp : Int32} {tw : Int64} {a1 : Int32} : zwp (f_X11_look a1 dcell dfig dhrs (nI nn) gf gm gpl tc tf th thr tl tp ts tw vals ncell (nI (qF P)) nheld (nI hr) nlead (nI pn) nsore (lN wl) (qDb P) (nI (qF P)) (qGc P) (nI (qGn P)) gst (nI (qH P)) (qHc P) (nI (qHn P)) hst (qLt P) (nI (qNl P)) (qSt P) (qWy P) (nI (qW P))) (fun r => r.1 = toN (cond (okN (1 + 1) a1) (some (if a1 = 0 then (mx (fun j => nI (fb_ct (gAt (gOk P wl hr (ncell, nsore, nheld) nn dfig dcell dhrs) (c5 P wl hr (ncell, nsore, nheld)) j (10 * qF P)) 36)) (qF P)).2 else (mx (fun j => nI (fb_ct (gAt (gOk P wl hr (ncell, nsore, nheld) nn dfig dcell dhrs) (c5 P wl hr (ncell, nsore, nheld)) j (10 * qF P)) 36)) (qF P)).1)) none)) := by
  have hF := hP.2.2.2.2.1
  have hWH := hP.wh
  unfold f_X11_look
  refine zi_beq (c_checkWhat (n := 1) (by decide)) ?_
  cases hc0 : okN (1 + 1) a1 with
  | false => exact zwi rfl
  | true =>
    dsimp only
    refine zi_bind (zwp_mono (c_search hP hN hNo) ?_)
    rintro ⟨o2, o3, o4, o5, o6, o7, o8, o9, o10, o11, o12, o13, o14, o15⟩ ⟨h1, h2, h3⟩
    dsimp only at h3 ⊢
    clear h1 h2
    generalize (gOk P wl hr (ncell, nsore, nheld) nn dfig dcell dhrs) = p at h3 ⊢
    generalize (c5 P wl hr (ncell, nsore, nheld)) = c at h3 ⊢
    obtain ⟨V, hV⟩ : ∃ V, V = (fun j => nI (fb_ct (gAt p c j (10 * qF P)) 36)) := ⟨_, rfl⟩
    rw [← hV]
    refine zl_bind (P := fun k a => a = ((mx V k).1, (mx V k).2, nI k)) (Post := fun b => b = mx V (qF P)) (qF P) (by omega) rfl ?_ ?_ ?_
    · rintro k hk _ rfl
      refine zi_f (nI_ge hk (by omega)) ?_
      obtain ⟨S, s1, s2, s3⟩ := h3 k hk
      rw [zbnd_nI (by omega) (by decide), nI_clamp (show k < 2 ^ 31 by omega), s1]
      refine zi_beq (l_bits36 s2) ?_
      have hVk : nI (fb_ct S.testBit 36) = V k := by rw [fb_ct_cong (fun j hj => s3 j hj), hV]
      rw [hVk]
      refine zi_c (fun q => ?_) (fun q => ?_)
      · exact zwi (by rw [mx_t q, nI_1]; rfl)
      · exact zwi (by rw [mx_f q, nI_1]; rfl)
    · rintro _ rfl
      exact zi_t (nI_le (Nat.le_refl _) (by omega)) (zwi rfl)
    · rintro _ rfl
      exact zi_c (fun q => zwi (by rw [if_pos q]; rfl)) (fun q => zwi (by rw [if_neg q]; rfl))
