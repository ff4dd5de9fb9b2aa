/-! AHEAD, LOOK: the reference -/
theorem rRow_lead {F f l hr wl : Nat} {rows cell sore held : Nat → Int32} {ld : Nat → Nat} (hF : F ≤ 8) (hf : f < F) (h : rRow F 70 rows hr cell sore held ld wl) : rRow F 70 (upd rows (70 + 25 + f) (nI l)) hr cell sore held (fun g => if g = f then l else ld g) wl := by
  obtain ⟨r0, r1, r2, r3, r4, r5⟩ := h
  refine ⟨by rw [pk_un (by omega)]; exact r0, fun g hg => by rw [pk_un (by omega)]; exact r1 g hg, fun g hg => by rw [pk_un (by omega)]; exact r2 g hg, fun g hg => by rw [pk_un (by omega)]; exact r3 g hg, fun g hg => ?_, fun c hc => by rw [pk_un (by omega)]; exact r5 c hc⟩
  by_cases q : g = f
  · subst q
    show _ = nI (if g = g then l else ld g)
    rw [pk_us, if_pos rfl]
  · show _ = nI (if g = f then l else ld g)
    rw [pk_un (by omega), if_neg q]; exact r4 g hg
theorem m_isNoted {P : Pl} (hP : plOk P) {wl hr : Nat} {ld : Nat → Nat} {t : Tn} {mwl mways mlight mcode rows mtold mpile msoon : Nat → Int32} {mga mha : Int32} (hm : mPl P mwl mways mlight mcode mga mha) {nn : Nat} {dfig dcell dhrs mnoted : Nat → Int32} (hNo : NoteR P nn dfig dcell dhrs mnoted) (hR : rRow (qF P) 70 rows hr t.1 t.2.1 t.2.2 ld wl) (hh : hr < 2 ^ 27) (hl : ∀ f, f < qF P → ld f < 2 ^ 30) (ht : tOk P t) : zwp (f_X12_isNoted mcode (qDb P) (-1 : Int32) (nI (qF P)) mga mha mlight (nI (qNl P)) mnoted (nI nn) mpile rows msoon (nI (qH P)) mtold mwl mways (nI (qW P))) (fun r => r.1 = b2 (sHold P wl hr t nn dfig dcell dhrs ld) ∧ (∀ k, k < 70 → r.2.2.1 k = rows k) ∧ (sHold P wl hr t nn dfig dcell dhrs ld = true → ∀ j, j < qF P → r.2.2.2.1 j = (sRun P wl ld hr t 5).1 j)) := by
  have hF := hP.2.2.2.2.1
  have hn := hNo.1
  unfold f_X12_isNoted
  refine zl_bs (P := fun k a => ∃ p r s u, a = (nI k, p, r, s, u) ∧ rRow (qF P) 70 r (hr + k) (sRun P wl ld hr t k).1 (sRun P wl ld hr t k).2.1 (sRun P wl ld hr t k).2.2 ld wl ∧ (∀ j, j < 70 → r j = rows j) ∧ (∀ i, i < k → sAgr nn dfig dcell dhrs (sRun P wl ld hr t i).1 i = true) ∧ (5 < k → ∀ j, j < qF P → s j = (sRun P wl ld hr t 5).1 j)) (Post := fun b => sHold P wl hr t nn dfig dcell dhrs ld = true ∧ (∀ j, j < 70 → b.2.1 j = rows j) ∧ ∀ j, j < qF P → b.2.2.1 j = (sRun P wl ld hr t 5).1 j) 21 (by decide) ⟨_, _, _, _, rfl, hR, fun _ _ => rfl, fun i hi => by omega, fun h => by omega⟩ ?_ ?_ ?_
  · rintro k hk _ ⟨p, r, s, u, rfl, h1, h2, h3, h4⟩
    refine zi_f (by rw [show (20 : Int32) = nI 20 from rfl]; exact nI_nlt (by omega) (by decide)) ?_
    dsimp only
    refine zl_bs (P := fun i a => a = nI i ∧ ∀ j, j < i → (!(dhrs j == nI k) || ((sRun P wl ld hr t k).1 (dfig j).toNatClampNeg == dcell j)) = true) (Post := fun _ => sAgr nn dfig dcell dhrs (sRun P wl ld hr t k).1 k = true) nn (by omega) ⟨rfl, fun j hj => by omega⟩ ?_ ?_ ?_
    · rintro i hi _ ⟨rfl, h⟩
      refine zi_f (nI_ge hi (by omega)) ?_
      obtain ⟨⟨m1, m2, m3⟩, ⟨f, hf, e⟩, _⟩ := hNo.2 i hi
      have i0 : (3 : Int32) * nI i = nI (3 * i) := by rw [show (3 : Int32) = nI 3 from rfl, pk_mul]
      have i2 : nI (3 * i) + (2 : Int32) = nI (3 * i + 2) := by rw [show (2 : Int32) = nI 2 from rfl, nI_add]
      rw [i0, i2, nI_1, zbnd_nI (by omega) (by decide), nI_clamp (show 3 * i + 2 < 2 ^ 31 by omega), ← m3]
      refine zi_c (fun q => ?_) (fun q => ?_)
      · rw [zbnd_nI (by omega) (by decide), nI_clamp (show 3 * i < 2 ^ 31 by omega), ← m1, e, ix71, zbnd_nI (by omega) (by decide), zbnd_nI (by omega) (by decide), nI_clamp (show 70 + 1 + f < 2 ^ 31 by omega), nI_clamp (show 3 * i + 1 < 2 ^ 31 by omega), ← m2, h1.2.1 f hf]
        refine zi_c (fun q2 => zwi ⟨by rw [nI_1], fun j hj => ?_⟩) (fun q2 => zwi ?_)
        · by_cases ej : j = i
          · subst ej
            rw [e, nI_clamp (by omega), q2, beq_self_eq_true, Bool.or_true]
          · exact h j (by omega)
        · have hno : sHold P wl hr t nn dfig dcell dhrs ld = false := by
            cases hq : sHold P wl hr t nn dfig dcell dhrs ld with
            | false => rfl
            | true =>
              have h5 := allB_iff.mp (allB_iff.mp hq k hk) i hi
              rw [q, beq_self_eq_true, e, nI_clamp (by omega), beq_false_of_ne q2] at h5
              cases h5
          exact ⟨by rw [hno]; rfl, h2, fun h => by rw [hno] at h; cases h⟩
      · refine zwi ⟨by rw [nI_1], fun j hj => ?_⟩
        by_cases ej : j = i
        · subst ej
          rw [beq_false_of_ne q]; rfl
        · exact h j (by omega)
    · rintro _ ⟨rfl, h⟩
      exact zi_t (nI_le (Nat.le_refl _) (by omega)) (zwi (allB_iff.mpr h))
    · intro _ hag
      refine zi_bind (zwp_mono (Q := fun s' : Nat → Int32 => 5 < k + 1 → ∀ j, j < qF P → s' j = (sRun P wl ld hr t 5).1 j) ?_ ?_)
      · by_cases q : k = 5
        · subst q
          refine zi_t rfl ?_
          refine zl_bind (P := fun i a => ∃ s', a = (nI i, s') ∧ ∀ j, j < i → s' j = (sRun P wl ld hr t 5).1 j) (Post := fun s' => ∀ j, j < qF P → s' j = (sRun P wl ld hr t 5).1 j) (qF P) (by omega) ⟨_, rfl, fun j hj => by omega⟩ ?_ ?_ ?_
          · rintro i hi _ ⟨s', rfl, h⟩
            refine zi_f (nI_ge hi (by omega)) ?_
            rw [ix71, zbnd_nI (by omega) (by decide), zbnd_nI (by omega) (by decide), nI_clamp (show 70 + 1 + i < 2 ^ 31 by omega), nI_clamp (show i < 2 ^ 31 by omega), h1.2.1 i hi, nI_1]
            refine zwi ⟨_, rfl, fun j hj => ?_⟩
            by_cases q : j = i
            · subst q; rw [pk_us]
            · rw [pk_un q]; exact h j (by omega)
          · rintro _ ⟨s', rfl, h⟩
            exact zi_t (nI_le (Nat.le_refl _) (by omega)) (zwi h)
          · intro s' h; exact zwi (fun _ => h)
        · refine zi_f (by rw [show (5 : Int32) = nI 5 from rfl]; exact nI_ne (by omega) (by decide) q) (zwi (fun h => h4 (by omega)))
      · intro s' hs'
        refine zi_bind (zwp_mono (m_hourK hP hm h1 (by omega) hl ht) ?_)
        rintro ⟨q1, q2, q3⟩ ⟨g1, g2⟩
        dsimp only at g1 g2
        refine zwi ⟨_, _, _, _, by rw [nI_1], g1, fun j hj => (g2 j hj).trans (h2 j hj), fun i hi => ?_, hs'⟩
        by_cases e : i = k
        · rw [e]; exact hag
        · exact h3 i (by omega)
  · rintro _ ⟨p, r, s, u, rfl, h1, h2, h3, h4⟩
    exact zi_t (by decide) (zwi ⟨allB_iff.mpr h3, h2, h4 (by decide)⟩)
  · rintro ⟨y9, y10, y11, y12⟩ ⟨h1, h2, h3⟩
    exact zwi ⟨by rw [h1]; rfl, h2, fun _ => h3⟩
theorem m_isGuess {P : Pl} (hP : plOk P) {hr pn wl : Nat} {ncell nsore nheld nlead : Nat → Int32} {mwl mways mlight mcode rows mtold mpile : Nat → Int32} {mga mha : Int32} (hm : mPl P mwl mways mlight mcode mga mha) (hN : NowR P hr pn wl ncell nsore nheld nlead rows) {nn : Nat} {dfig dcell dhrs mnoted msoon : Nat → Int32} (hNo : NoteR P nn dfig dcell dhrs mnoted) {g : Nat} (hg : g < 10 * qF P) : zwp (f_X12_isGuess (nI g) mcode (qDb P) (-1 : Int32) (nI (qF P)) mga mha mlight (nI (qNl P)) mnoted (nI nn) mpile rows msoon (nI (qH P)) mtold mwl mways (nI (qW P))) (fun r => r.1 = b2 ((gOk P wl hr (ncell, nsore, nheld) nn dfig dcell dhrs) g) ∧ (∀ k, k < 70 → r.2.2.1 k = rows k) ∧ ((gOk P wl hr (ncell, nsore, nheld) nn dfig dcell dhrs) g = true → ∀ j, j < qF P → r.2.2.2.1 j = (c5 P wl hr (ncell, nsore, nheld)) g j)) := by
  have hF := hP.2.2.2.2.1
  have hr9 := hN.2.2.1
  unfold f_X12_isGuess
  have hf : g / 10 < qF P := by omega
  have hl : g % 10 < 10 := by omega
  obtain ⟨s, hs, hs0, hs8, _⟩ := hP.2.2.2.2.2.2.1 (g / 10) hf
  rw [show (10 : Int32) = nI 10 from rfl, pk_rem (by omega) (by decide) (by decide), pk_div (by omega) (by decide) (by decide), zbnd_nI (by omega) (by decide), nI_clamp (show g / 10 < 2 ^ 31 by omega), hm.1 (g / 10) hf, hs]
  unfold gOk
  rw [hs]
  by_cases q : s ≤ g % 10
  · refine zi_t (nI_le q (by omega)) (zwi ?_)
    rw [decide_eq_false (fun h => h (nI_le q (by omega)))]
    exact ⟨rfl, fun _ _ => rfl, fun h => by cases h⟩
  refine zi_f (nI_ge (by omega) (by omega)) ?_
  rw [decide_eq_true (nI_ge (show g % 10 < s by omega) (by omega)), Bool.true_and]
  have i25 : (25 : Int32) + nI (g / 10) = nI (0 + 25 + g / 10) := by rw [show (25 : Int32) = nI 25 from rfl, nI_add]
  have i95 : (95 : Int32) + nI (g / 10) = nI (70 + 25 + g / 10) := by rw [show (95 : Int32) = nI 95 from rfl, nI_add]
  rw [i25, zbnd_nI (by omega) (by decide), nI_clamp (show 0 + 25 + g / 10 < 2 ^ 31 by omega), hN.1.2.2.2.2.1 (g / 10) hf]
  by_cases q0 : g % 10 = 0
  · refine zi_t (by rw [q0]) (zwi ?_)
    rw [q0]
    exact ⟨rfl, fun _ _ => rfl, fun h => by cases h⟩
  refine zi_f (nI_ne (a := 0) (by decide) (by omega) (fun e => q0 e.symm)) ?_
  rw [show (!(g % 10 == 0)) = true by rw [beq_false_of_ne q0]; rfl, Bool.true_and]
  refine zi_bind (zwp_mono m_tries ?_)
  intro o1 ⟨t1, t2⟩
  have hR0 := rRow_cp hF hN.1 t2
  have hR1 := rRow_lead (f := g / 10) (l := g % 10) hF hf hR0
  rw [i95, zbnd_nI (by omega) (by decide), nI_clamp (show 70 + 25 + g / 10 < 2 ^ 31 by omega)]
  refine zi_bind (zwp_mono (m_isNoted hP hm hNo (t := (ncell, nsore, nheld)) (ld := ldG g) hR1 (by omega) (fun f _ => by unfold ldG; split <;> omega) hN.tk) ?_)
  rintro ⟨r6, o2, o3, o4, o5⟩ ⟨h1, h2, h3⟩
  dsimp only at h1 h2 h3 ⊢
  subst h1
  rw [b2_bol]
  exact zwi ⟨rfl, fun k hk => by show o3 k = rows k; rw [h2 k hk, pk_un (by omega)]; exact t1 k hk, h3⟩
theorem m_ahead {P : Pl} (hP : plOk P) {hr pn wl : Nat} {ncell nsore nheld nlead : Nat → Int32} {mwl mways mlight mcode rows mtold mpile : Nat → Int32} {mga mha mthr : Int32} (hm : mPl P mwl mways mlight mcode mga mha) (hN : NowR P hr pn wl ncell nsore nheld nlead rows) {nn : Nat} {dfig dcell dhrs mnoted msoon : Nat → Int32} (hNo : NoteR P nn dfig dcell dhrs mnoted) {a1 : Int32} : zwp (f_X12_ahead a1 mcode (qDb P) (-1 : Int32) (nI (qF P)) mga mha mlight (nI (qNl P)) mnoted (nI nn) mpile rows msoon (nI (qH P)) mthr mtold mwl mways (nI (qW P))) (fun r => r.1 = toW (cond (okN (2 + 1) a1) (some (if a1 = 2 then b2 (sHold P wl hr (ncell, nsore, nheld) nn dfig dcell dhrs (fun _ => 0)) else if a1 = 0 then nI (fb_ct (gOk P wl hr (ncell, nsore, nheld) nn dfig dcell dhrs) (10 * qF P)) else fsA (gOk P wl hr (ncell, nsore, nheld) nn dfig dcell dhrs) (10 * qF P))) none) ∧ r.2.2.2.2.1 = toU (cond (okN (2 + 1) a1) (some (if a1 = 2 then b2 (sHold P wl hr (ncell, nsore, nheld) nn dfig dcell dhrs (fun _ => 0)) else if a1 = 0 then nI (fb_ct (gOk P wl hr (ncell, nsore, nheld) nn dfig dcell dhrs) (10 * qF P)) else fsA (gOk P wl hr (ncell, nsore, nheld) nn dfig dcell dhrs) (10 * qF P))) none) ∧ ∀ k, k < 70 → r.2.2.1 k = rows k) := by
  have hF := hP.2.2.2.2.1
  have hWH := hP.wh
  have hr9 := hN.2.2.1
  unfold f_X12_ahead
  refine zi_beq (m_isWhat (n := 2) (by decide)) ?_
  cases hc0 : okN (2 + 1) a1 with
  | false => exact zi_t rfl (zwi ⟨rfl, rfl, fun _ _ => rfl⟩)
  | true =>
    refine zi_f (by decide) ?_
    refine zi_c (fun q => ?_) (fun q => ?_)
    · rw [if_pos q]
      refine zi_bind (zwp_mono m_tries ?_)
      intro o22 ⟨t1, t2⟩
      have hR0 := rRow_cp hF hN.1 t2
      refine zi_bind (zwp_mono (m_isNoted hP hm hNo (t := (ncell, nsore, nheld)) hR0 (by omega) (fun f _ => by decide) hN.tk) ?_)
      rintro ⟨r27, o23, o24, o25, o26⟩ ⟨h1, h2, h3⟩
      dsimp only at h1 h2
      subst h1
      clear h3
      have hfr : ∀ k, k < 70 → o24 k = rows k := fun k hk => (h2 k hk).trans (t1 k hk)
      generalize (sHold P wl hr (ncell, nsore, nheld) nn dfig dcell dhrs (fun _ => 0)) = B
      cases B with
      | false => exact zi_t rfl (zwi ⟨rfl, rfl, hfr⟩)
      | true => exact zi_f (show ¬ b2 true = 0 by decide) (zwi ⟨rfl, rfl, hfr⟩)
    · rw [if_neg q]
      obtain ⟨p, hp⟩ : ∃ p, p = (gOk P wl hr (ncell, nsore, nheld) nn dfig dcell dhrs) := ⟨_, rfl⟩
      rw [← hp]
      have i10 : (10 : Int32) * nI (qF P) = nI (10 * qF P) := by rw [show (10 : Int32) = nI 10 from rfl, pk_mul]
      rw [i10]
      refine zl_bind (P := fun g a => ∃ pi r s u, a = (nI (fb_ct p g), fsA p g, nI g, pi, r, s, u) ∧ ∀ j, j < 70 → r j = rows j) (Post := fun b => b.1 = nI (fb_ct p (10 * qF P)) ∧ b.2.1 = fsA p (10 * qF P) ∧ ∀ j, j < 70 → b.2.2.2.1 j = rows j) (10 * qF P) (by omega) ⟨_, _, _, _, rfl, fun _ _ => rfl⟩ ?_ ?_ ?_
      · rintro g hg _ ⟨pi, r, s, u, rfl, hfr⟩
        refine zi_f (nI_ge hg (by omega)) ?_
        refine zi_bind (zwp_mono (m_isGuess hP hm (hN.fr hP hfr) hNo hg) ?_)
        rintro ⟨r21, o17, o18, o19, o20⟩ ⟨h1, h2, h3⟩
        dsimp only at h1 h2
        rw [← hp] at h1
        clear h3
        subst h1
        have hfr2 : ∀ k, k < 70 → o18 k = rows k := fun k hk => (h2 k hk).trans (hfr k hk)
        have hle : fb_ct p g ≤ g := fb_ct_le _ _
        cases hq : p g with
        | false =>
          refine zi_t rfl (zwi ⟨o17, o18, o19, o20, ?_, hfr2⟩)
          rw [fb_ct_succ, if_neg (by rw [hq]; decide), fsA_f hq, nI_1]; rfl
        | true =>
          refine zi_f (show ¬ b2 true = 0 by decide) ?_
          have hm1 := fsA_m1 (p := p) (n := g) (by omega)
          refine zi_c (fun q => zwi ⟨o17, o18, o19, o20, ?_, hfr2⟩) (fun q => zwi ⟨o17, o18, o19, o20, ?_, hfr2⟩)
          · rw [fb_ct_succ, if_pos hq, fsA_0 hq (hm1.mp q), nI_1, nI_1]
          · rw [fb_ct_succ, if_pos hq, fsA_1 (fun e => q (hm1.mpr e)), nI_1, nI_1]
      · rintro _ ⟨pi, r, s, u, rfl, hfr⟩
        exact zi_t (nI_le (Nat.le_refl _) (by omega)) (zwi ⟨rfl, rfl, hfr⟩)
      · rintro ⟨y10, y11, y13, y14, y15, y16⟩ ⟨h1, h2, h3⟩
        dsimp only at h1 h2 h3
        subst h1 h2
        exact zi_c (fun q => zwi ⟨by rw [if_pos q]; rfl, rfl, h3⟩) (fun q => zwi ⟨by rw [if_neg q]; rfl, rfl, h3⟩)
theorem m_look {P : Pl} (hP : plOk P) {hr pn wl : Nat} {ncell nsore nheld nlead : Nat → Int32} {mwl mways mlight mcode rows mtold mpile : Nat → Int32} {mga mha mthr : Int32} (hm : mPl P mwl mways mlight mcode mga mha) (hN : NowR P hr pn wl ncell nsore nheld nlead rows) {nn : Nat} {dfig dcell dhrs mnoted msoon : Nat → Int32} (hNo : NoteR P nn dfig dcell dhrs mnoted) {msall : Nat → Int32} {a1 : Int32} : zwp (f_X12_look a1 mcode (qDb P) (-1 : Int32) (nI (qF P)) mga mha mlight (nI (qNl P)) mnoted (nI nn) mpile rows msoon msall (nI (qH P)) mthr mtold mwl mways (nI (qW P))) (fun r => r.1 = toW (cond (okN (1 + 1) a1) (some (if a1 = 0 then (mx (fun j => nI (fb_ct (gAt (gOk P wl hr (ncell, nsore, nheld) nn dfig dcell dhrs) (c5 P wl hr (ncell, nsore, nheld)) j (10 * qF P)) 36)) (qF P)).2 else (mx (fun j => nI (fb_ct (gAt (gOk P wl hr (ncell, nsore, nheld) nn dfig dcell dhrs) (c5 P wl hr (ncell, nsore, nheld)) j (10 * qF P)) 36)) (qF P)).1)) none) ∧ r.2.2.2.2.2.1 = toU (cond (okN (1 + 1) a1) (some (if a1 = 0 then (mx (fun j => nI (fb_ct (gAt (gOk P wl hr (ncell, nsore, nheld) nn dfig dcell dhrs) (c5 P wl hr (ncell, nsore, nheld)) j (10 * qF P)) 36)) (qF P)).2 else (mx (fun j => nI (fb_ct (gAt (gOk P wl hr (ncell, nsore, nheld) nn dfig dcell dhrs) (c5 P wl hr (ncell, nsore, nheld)) j (10 * qF P)) 36)) (qF P)).1)) none) ∧ ∀ k, k < 70 → r.2.2.1 k = rows k) := by
  have hF := hP.2.2.2.2.1
  have hWH := hP.wh
  have hr9 := hN.2.2.1
  unfold f_X12_look
  refine zi_beq (m_isWhat (n := 1) (by decide)) ?_
  cases hc0 : okN (1 + 1) a1 with
  | false => exact zi_t rfl (zwi ⟨rfl, rfl, fun _ _ => rfl⟩)
  | true =>
    refine zi_f (by decide) ?_
    obtain ⟨p, hp⟩ : ∃ p, p = (gOk P wl hr (ncell, nsore, nheld) nn dfig dcell dhrs) := ⟨_, rfl⟩
    obtain ⟨c, hc⟩ : ∃ c, c = (c5 P wl hr (ncell, nsore, nheld)) := ⟨_, rfl⟩
    rw [← hp, ← hc]
    have i10 : (10 : Int32) * nI (qF P) = nI (10 * qF P) := by rw [show (10 : Int32) = nI 10 from rfl, pk_mul]
    rw [i10]
    have hlen : ∀ g, p g = true → g < 10 * qF P → g % 10 < 8 := fun g h hg => by
      rw [hp] at h
      unfold gOk at h
      obtain ⟨s, hs, hs0, hs8, _⟩ := hP.2.2.2.2.2.2.1 (g / 10) (by omega)
      rw [Bool.and_eq_true, decide_eq_true_iff, hs] at h
      refine Classical.byContradiction (fun q => h.1 (nI_le (by omega) (by omega)))
    have hck : ∀ g, g < 10 * qF P → ∀ j, j < qF P → ∃ k, c g j = nI k ∧ k < 36 := fun g hg j hj => by
      obtain ⟨cc, c1, c2⟩ := (sRun_ok hP (wl := wl) (ld := ldG g) (hr := hr) hN.tk 5).1 j hj
      exact ⟨cc, by rw [hc]; exact c1, by omega⟩
    refine zl_bind (P := fun g a => ∃ pi r s sa u, a = (nI (fb_ct p g), nI g, pi, r, s, sa, u) ∧ (∀ j, j < 70 → r j = rows j) ∧ fb_ct p g ≤ 8 * (g / 10) + min (g % 10) 8 ∧ (∀ j, j < qF P → ∀ a, a < fb_ct p g → ∃ k, sa (8 * a + j) = nI k ∧ k < 36) ∧ ∀ j, j < qF P → ∀ k, k < 36 → anyB (fun a => sa (8 * a + j) == nI k) (fb_ct p g) = gAt p c j g k) (Post := fun b => ∃ m, m ≤ 64 ∧ b.1 = nI m ∧ (∀ j, j < 70 → b.2.2.1 j = rows j) ∧ (∀ j, j < qF P → ∀ a, a < m → ∃ k, b.2.2.2.2.1 (8 * a + j) = nI k ∧ k < 36) ∧ ∀ j, j < qF P → ∀ k, k < 36 → anyB (fun a => b.2.2.2.2.1 (8 * a + j) == nI k) m = gAt p c j (10 * qF P) k) (10 * qF P) (by omega) ⟨_, _, _, _, _, rfl, fun _ _ => rfl, Nat.le_refl _, fun j hj a ha => absurd ha (Nat.not_lt_zero _), fun _ _ _ _ => rfl⟩ ?_ ?_ ?_
    · rintro g hg _ ⟨pi, r, s, sa, u, rfl, hfr, hb, hk1, hk2⟩
      refine zi_f (nI_ge hg (by omega)) ?_
      refine zi_bind (zwp_mono (m_isGuess hP hm (hN.fr hP hfr) hNo hg) ?_)
      rintro ⟨r51, o47, o48, o49, o50⟩ ⟨h1, h2, h3⟩
      dsimp only at h1 h2 h3
      rw [← hp] at h1 h3
      rw [← hc] at h3
      subst h1
      have hfr2 : ∀ k, k < 70 → o48 k = rows k := fun k hk => (h2 k hk).trans (hfr k hk)
      have hct : fb_ct p (g + 1) = fb_ct p g + (if p g then 1 else 0) := rfl
      have hga : ∀ j k, gAt p c j (g + 1) k = (gAt p c j g k || (p g && (c g j == nI k))) := fun _ _ => rfl
      cases hq : p g with
      | false =>
        rw [hq, if_neg (by decide), Nat.add_zero] at hct
        refine zi_t rfl (zwi ⟨o47, o48, o49, sa, o50, by rw [nI_1, hct]; rfl, hfr2, by rw [hct]; omega, by rw [hct]; exact hk1, fun j hj k hk => ?_⟩)
        rw [hct, hga, hq, Bool.false_and, Bool.or_false]; exact hk2 j hj k hk
      | true =>
        have hl8 := hlen g hq hg
        rw [hq, if_pos rfl] at hct
        have h3' := h3 hq
        clear h3
        have hm63 : fb_ct p g < 64 := by omega
        generalize fb_ct p g = m at hct hb hk1 hk2 hm63
        generalize fb_ct p (g + 1) = m1 at hct
        refine zi_f (show ¬ b2 true = 0 by decide) ?_
        refine zl_bind (P := fun i a => ∃ sa', a = (nI i, sa') ∧ (∀ a, a < 8 * m → sa' a = sa a) ∧ ∀ j, j < i → sa' (8 * m + j) = c g j) (Post := fun sa' => (∀ a, a < 8 * m → sa' a = sa a) ∧ ∀ j, j < qF P → sa' (8 * m + j) = c g j) (qF P) (by omega) ⟨_, rfl, fun _ _ => rfl, fun j hj => by omega⟩ ?_ ?_ ?_
        · rintro i hi _ ⟨sa', rfl, g1, g2⟩
          refine zi_f (nI_ge hi (by omega)) ?_
          rw [zbnd_nI (by omega) (by decide), show (8 : Int32) = nI 8 from rfl, pk_mul, nI_add, zbnd_nI (by omega) (by decide), nI_clamp (show 8 * m + i < 2 ^ 31 by omega), nI_clamp (show i < 2 ^ 31 by omega), h3' i hi, nI_1]
          refine zwi ⟨_, rfl, fun a ha => ?_, fun j hj => ?_⟩
          · rw [pk_un (by omega)]; exact g1 a ha
          · by_cases q : j = i
            · subst q; rw [pk_us]
            · rw [pk_un (by omega)]; exact g2 j (by omega)
        · rintro _ ⟨sa', rfl, g1, g2⟩
          exact zi_t (nI_le (Nat.le_refl _) (by omega)) (zwi ⟨g1, g2⟩)
        · intro sa' ⟨g1, g2⟩
          subst hct
          refine zwi ⟨o47, o48, o49, sa', o50, by rw [nI_1, nI_1], hfr2, by omega, fun j hj a ha => ?_, fun j hj k hk => ?_⟩
          · by_cases q : a = m
            · rw [q, g2 j hj]; exact hck g hg j hj
            · rw [g1 (8 * a + j) (by omega)]; exact hk1 j hj a (by omega)
          · rw [anyB_s, g2 j hj, hga, hq, Bool.true_and, ← hk2 j hj k hk]
            congr 1
            rw [Bool.eq_iff_iff, anyB_iff, anyB_iff]
            constructor
            · rintro ⟨a, a1, a2⟩
              rw [g1 (8 * a + j) (by omega)] at a2
              exact ⟨a, a1, a2⟩
            · rintro ⟨a, a1, a2⟩
              refine ⟨a, a1, ?_⟩
              rw [g1 (8 * a + j) (by omega)]; exact a2
    · rintro _ ⟨pi, r, s, sa, u, rfl, hfr, hb, hk1, hk2⟩
      exact zi_t (nI_le (Nat.le_refl _) (by omega)) (zwi ⟨fb_ct p (10 * qF P), by omega, rfl, hfr, hk1, hk2⟩)
    rintro ⟨y11, y14, y15, y16, y17, y18⟩ ⟨m, hm64, h11, hfr, hk1, hk2⟩
    dsimp only at h11 hfr hk1 hk2 ⊢
    subst h11
    obtain ⟨V, hV⟩ : ∃ V, V = (fun j => nI (fb_ct (gAt p c j (10 * qF P)) 36)) := ⟨_, rfl⟩
    rw [← hV]
    refine zl_bind (P := fun k a => a = ((mx V k).2, (mx V k).1, nI k)) (Post := fun b => b = ((mx V (qF P)).2, (mx V (qF P)).1)) (qF P) (by omega) rfl ?_ ?_ ?_
    · rintro j hj _ rfl
      refine zi_f (nI_ge hj (by omega)) ?_
      obtain ⟨w, hw⟩ : ∃ w, w = (fun a => y17 (8 * a + j)) := ⟨_, rfl⟩
      refine zl_bind (P := fun a s => s = (nI (fb_ct (newF w) a), nI a)) (Post := fun b => b = V j) m (by omega) rfl ?_ ?_ ?_
      · rintro a ha _ rfl
        refine zi_f (nI_ge ha (by omega)) ?_
        refine zl_bind (P := fun b s => ∃ B, s = (b2 B, nI b) ∧ ((B = true ∧ anyB (fun x => w x == w a) b = false) ∨ (B = false ∧ anyB (fun x => w x == w a) a = true))) (Post := fun s => s = b2 (newF w a)) a (by omega) ⟨true, rfl, .inl ⟨rfl, rfl⟩⟩ ?_ ?_ ?_
        · rintro b hb _ ⟨B, rfl, hB⟩
          refine zi_f (nI_ge hb (by omega)) ?_
          rcases hB with ⟨rfl, h⟩ | ⟨rfl, h⟩
          · refine zi_f (show ¬ b2 true = 0 by decide) ?_
            rw [show (8 : Int32) = nI 8 from rfl, pk_mul, pk_mul, nI_add, nI_add, zbnd_nI (by omega) (by decide), zbnd_nI (by omega) (by decide), nI_clamp (show 8 * a + j < 2 ^ 31 by omega), nI_clamp (show 8 * b + j < 2 ^ 31 by omega)]
            have ea : y17 (8 * a + j) = w a := by rw [hw]
            have eb : y17 (8 * b + j) = w b := by rw [hw]
            rw [ea, eb]
            refine zi_bind (zi_c (fun q => zwi (zwi ?_)) (fun q => zwi (zwi ?_)))
            · exact ⟨false, by rw [nI_1]; rfl, .inr ⟨rfl, anyB_iff.mpr ⟨b, hb, by rw [q]; exact beq_self_eq_true _⟩⟩⟩
            · exact ⟨true, by rw [nI_1]; rfl, .inl ⟨rfl, by rw [anyB_s, h, beq_false_of_ne (fun e => q e.symm)]; rfl⟩⟩
          · refine zi_t rfl (zwi ?_)
            show b2 false = b2 (newF w a)
            unfold newF
            rw [h]; rfl
        · rintro _ ⟨B, rfl, hB⟩
          refine zi_t (nI_le (Nat.le_refl _) (by omega)) (zwi ?_)
          show b2 B = b2 (newF w a)
          unfold newF
          rcases hB with ⟨rfl, h⟩ | ⟨rfl, h⟩
          · rw [h]; rfl
          · rw [h]; rfl
        · intro y43 e
          subst e
          cases hq : newF w a with
          | false =>
            refine zi_bind (zi_t rfl (zwi (zwi ?_)))
            show (_, _) = (_, _)
            rw [fb_ct_succ, if_neg (by rw [hq]; decide), nI_1, Int32.add_zero]; rfl
          | true =>
            refine zi_bind (zi_f (by decide) (zwi (zwi ?_)))
            show (_, _) = (_, _)
            rw [fb_ct_succ, if_pos hq, nI_1, nI_1]
      · rintro _ rfl
        refine zi_t (nI_le (Nat.le_refl _) (by omega)) (zwi ?_)
        show nI (fb_ct (newF w) m) = V j
        rw [← plN_new (cell := w) (F := m) (fun a ha => by rw [hw]; exact hk1 j hj a ha), hV]
        refine congrArg nI (fb_ct_cong (fun k hk => ?_))
        rw [hw]; exact hk2 j hj k hk
      · intro y37 e
        subst e
        by_cases q : V j ≤ (mx V j).1
        · refine zi_f (Int32.not_lt.mpr q) (zwi ?_)
          show (_, _, _) = (_, _, _)
          rw [mx_t q, nI_1]
        · refine zi_t (Int32.not_le.mp q) (zwi ?_)
          show (_, _, _) = (_, _, _)
          rw [mx_f q, nI_1]
    · rintro _ rfl
      exact zi_t (nI_le (Nat.le_refl _) (by omega)) (zwi rfl)
    · rintro _ rfl
      exact zi_c (fun q => zwi ⟨by rw [if_pos q]; rfl, rfl, hfr⟩) (fun q => zwi ⟨by rw [if_neg q]; rfl, rfl, hfr⟩)
