/-! CLOUDS -/
/-- hours to come under a told sky -/
noncomputable def sRunD (P : Pl) (wl hr : Nat) (t : Tn) (dl : Nat → Bool) : Nat → Tn
  | 0 => t
  | k + 1 => sHr P wl (fun _ => 0) (hr + k) (dl k) (sRunD P wl hr t dl k)
theorem sRunD_ok {P : Pl} (hP : plOk P) {wl hr : Nat} {t : Tn} {dl : Nat → Bool} (h : tOk P t) : ∀ k, tOk P (sRunD P wl hr t dl k)
  | 0 => h
  | k + 1 => sHr_ok hP (sRunD_ok hP h k)
theorem sRunD_cg {P : Pl} (hP : plOk P) {wl hr : Nat} {t u : Tn} {dl : Nat → Bool} (h : tEq (qF P) t u) : ∀ k, tEq (qF P) (sRunD P wl hr t dl k) (sRunD P wl hr u dl k)
  | 0 => h
  | k + 1 => sHr_cg hP (sRunD_cg hP h k)
theorem tCp_eq {P : Pl} (hF : qF P ≤ 8) {ncell nsore nheld fcell fsore fheld : Nat → Int32} : tEq (qF P) (tCp ncell nsore nheld fcell fsore fheld) (ncell, nsore, nheld) := fun f hf => ⟨cpy8 (by omega), cpy8 (by omega), cpy8 (by omega)⟩
def sWt (u : Nat) (a : Int32) : Nat → Int32
  | 0 => 1
  | k + 1 => sWt u a k * (if u.testBit k then a else 10 - a)
noncomputable def sLk (P : Pl) (wl hr : Nat) (t : Tn) (f n : Nat) (c a : Int32) : Nat → Int32
  | 0 => 0
  | u + 1 => if (sRunD P wl hr t u.testBit n).1 f = c then sLk P wl hr t f n c a u + sWt u a n else sLk P wl hr t f n c a u
theorem sLk_t {P : Pl} {wl hr : Nat} {t : Tn} {f n : Nat} {c a : Int32} {u : Nat} (h : (sRunD P wl hr t u.testBit n).1 f = c) : sLk P wl hr t f n c a (u + 1) = sLk P wl hr t f n c a u + sWt u a n := if_pos h
theorem sLk_f {P : Pl} {wl hr : Nat} {t : Tn} {f n : Nat} {c a : Int32} {u : Nat} (h : ¬ (sRunD P wl hr t u.testBit n).1 f = c) : sLk P wl hr t f n c a (u + 1) = sLk P wl hr t f n c a u := if_neg h
theorem dl_b2 {P : Pl} {hr : Nat} {dl : Bool} : dlIs P hr (b2 dl) dl := by
  cases dl with
  | true => exact .inr (.inl ⟨rfl, rfl⟩)
  | false => exact .inr (.inr ⟨rfl, rfl⟩)
theorem two5 : ∀ n, n ≤ 5 → 2 ^ n ≤ 32 := fun n h => (Nat.pow_le_pow_right (by decide) h : 2 ^ n ≤ 2 ^ 5)
theorem c_clouds {P : Pl} (hP : plOk P) {hr pn wl : Nat} {ncell nsore nheld nlead fcell fsore fheld flead vals gst hst : Nat → Int32} {ffig fhr fpn : Int32} {fwl : Int64} {rows : Nat → Int32} (hN : NowR P hr pn wl ncell nsore nheld nlead rows) {a1 a2 a3 a4 : Int32} : zwp (f_X11_clouds a1 a2 a3 a4 fcell ffig fheld fhr flead fpn fsore fwl vals ncell (nI (qF P)) nheld (nI hr) nlead (nI pn) nsore (lN wl) (nI (qF P)) (qGc P) (nI (qGn P)) gst (nI (qH P)) (qHc P) (nI (qHn P)) hst (qLt P) (nI (qNl P)) (qSt P) (qWy P) (nI (qW P))) (fun r => r.1 = toC (cond (okN (qF P) a1) (cond (okN (qW P * qH P) a2) (cond (inR 1 5 a3) (cond (inR 0 10 a4) (.inl (sLk P wl hr (ncell, nsore, nheld) a1.toNatClampNeg a3.toNatClampNeg a2 a4 (2 ^ a3.toNatClampNeg))) (.inr true)) (.inr true)) (.inr false)) (.inr false))) := by
  have hF := hP.2.2.2.2.1
  have hWH := hP.wh
  unfold f_X11_clouds
  refine zi_beq (c_checkFigure (F := qF P) (by omega)) ?_
  cases hc0 : okN (qF P) a1 with
  | false => exact zwi rfl
  | true =>
  refine zi_beq (c_checkCell (W := qW P) (H := qH P) (by omega)) ?_
  cases hc1 : okN (qW P * qH P) a2 with
  | false => exact zwi rfl
  | true =>
  refine zi_beq (c_checkHours (lo := 1) (hi := 5) (by decide) (by decide)) ?_
  cases hc2 : inR 1 5 a3 with
  | false => exact zwi rfl
  | true =>
  refine zi_beq (c_checkHours (lo := 0) (hi := 10) (by decide) (by decide)) ?_
  cases hc3 : inR 0 10 a4 with
  | false => exact zwi rfl
  | true =>
  obtain ⟨f, hf, rfl⟩ := okN_t hc0
  obtain ⟨n, hn1, hn, rfl⟩ := inR_t hc2
  clear hc0 hc1 hc2 hc3
  have h32 := two5 n hn
  have hr9 := hN.2.2.1
  rw [nI_clamp (show f < 2 ^ 31 by omega), nI_clamp (show n < 2 ^ 31 by omega)]
  dsimp only [cond]
  rw [one_shl n (by omega)]
  obtain ⟨N, hN2⟩ : ∃ N, N = 2 ^ n := ⟨_, rfl⟩
  rw [← hN2] at h32 ⊢
  refine zl_bind (P := fun u a => a.1 = sLk P wl hr (ncell, nsore, nheld) f n a2 a4 u ∧ a.2.1 = nI u) (Post := fun b => b.1 = sLk P wl hr (ncell, nsore, nheld) f n a2 a4 N) N (by omega) ⟨rfl, rfl⟩ ?_ ?_ ?_
  · rintro u hu ⟨x5, x6, x10, x11, x12, x13, x14, x15, x16, x17, x18, x19, x20⟩ ⟨e5, e6⟩
    dsimp only at e5 e6
    subst e5 e6
    refine zi_f (nI_ge hu (by omega)) ?_
    unfold f_X8_copyFrom
    refine zi_beq rfl ?_
    have hld : ∀ f, f < qF P → va_cpy nlead x14 0 0 8 f = nI 0 := fun f hf => by rw [cpy8 (by omega)]; exact hN.2.2.2.2.2.2.2.2 f hf
    have htk := fun k => sRunD_ok hP (wl := wl) (hr := hr) (dl := u.testBit) (tCp_ok hP (fcell := x10) (fsore := x16) (fheld := x12) hN.tk) k
    have hcg := (sRunD_cg hP (wl := wl) (hr := hr) (dl := u.testBit) (tCp_eq hF (ncell := ncell) (nsore := nsore) (nheld := nheld) (fcell := x10) (fsore := x16) (fheld := x12)) n f hf).1
    have hT := fun h => sLk_t (P := P) (wl := wl) (hr := hr) (t := (ncell, nsore, nheld)) (f := f) (n := n) (c := a2) (a := a4) (u := u) h
    have hFf := fun h => sLk_f (P := P) (wl := wl) (hr := hr) (t := (ncell, nsore, nheld)) (f := f) (n := n) (c := a2) (a := a4) (u := u) h
    generalize sLk P wl hr (ncell, nsore, nheld) f n a2 a4 (u + 1) = Z at hT hFf ⊢
    dsimp only
    refine zl_bind (P := fun k a => ∃ v g h, a = (sWt u a4 k, nI k, (sRunD P wl hr (tCp ncell nsore nheld x10 x16 x12) u.testBit k).1, (sRunD P wl hr (tCp ncell nsore nheld x10 x16 x12) u.testBit k).2.2, nI (hr + k), (sRunD P wl hr (tCp ncell nsore nheld x10 x16 x12) u.testBit k).2.1, v, g, h)) (Post := fun b => b.1 = sWt u a4 n ∧ b.2.1 = (sRunD P wl hr (tCp ncell nsore nheld x10 x16 x12) u.testBit n).1) n (by omega) ⟨_, _, _, rfl⟩ ?_ ?_ ?_
    · rintro k hk _ ⟨v, g, h, rfl⟩
      refine zi_f (nI_ge hk (by omega)) ?_
      rw [bit_sh u (by omega) k (by omega)]
      refine zi_bind (zwp_mono (Q := fun v => v = b2 (u.testBit k)) ?_ ?_)
      · cases u.testBit k with
        | true => exact zi_f (by decide) (zwi rfl)
        | false => exact zi_t rfl (zwi rfl)
      intro j65 e
      subst e
      refine zi_bind (zwp_mono (Q := fun v => v = if u.testBit k then a4 else 10 - a4) ?_ ?_)
      · cases u.testBit k with
        | true => exact zi_f (by decide) (zwi rfl)
        | false => exact zi_t rfl (zwi rfl)
      intro j66 e
      subst e
      refine zi_bind (zwp_mono (c_passHour hP (ld := fun _ => 0) (by omega) (fun f hf => ⟨hld f hf, by omega⟩) (hN.wl63 hP) (htk k).1) ?_)
      rintro ⟨q1, q2, q3, q4, q5, q6, q7⟩ ⟨g1, g2, g3, g4⟩
      dsimp only at g1 g2 g3 g4
      subst g1 g2 g3 g4
      exact zwi ⟨_, _, _, by rw [nI_1]; rfl⟩
    · rintro _ ⟨v, g, h, rfl⟩
      exact zi_t (nI_le (Nat.le_refl _) (by omega)) (zwi ⟨rfl, rfl⟩)
    rintro ⟨y55, y58, y59, y60, y61, y62, y63, y64⟩ ⟨h55, h58⟩
    dsimp only at h55 h58 ⊢
    rw [zbnd_nI (by omega) (by decide)]
    have hq : y58 f = (sRunD P wl hr (ncell, nsore, nheld) u.testBit n).1 f := by rw [h58]; exact hcg
    refine zi_c (fun q => zwi ?_) (fun q => zwi ?_)
    · exact ⟨by rw [hT (hq.symm.trans q), h55], by rw [nI_1]⟩
    · exact ⟨(hFf (fun e => q (hq.trans e))).symm, by rw [nI_1]⟩
  · rintro ⟨x5, x6, x10, x11, x12, x13, x14, x15, x16, x17, x18, x19, x20⟩ ⟨e5, e6⟩
    dsimp only at e5 e6
    subst e6
    exact zi_t (nI_le (Nat.le_refl _) (by omega)) (zwi e5)
  · rintro ⟨y1, y2, y3, y4, y5, y6, y7, y8, y9, y10, y11, y12⟩ e
    dsimp only at e
    subst e
    exact zwi rfl
theorem m_hourD {P : Pl} (hP : plOk P) {mwl mways mlight mcode rows mtold mpile : Nat → Int32} {mga mha : Int32} {hr wl : Nat} {ld : Nat → Nat} {t : Tn} {dl : Bool} (hm : mPl P mwl mways mlight mcode mga mha) (hR : rRow (qF P) 70 rows hr t.1 t.2.1 t.2.2 ld wl) (hh : hr < 2 ^ 28) (hl : ∀ f, f < qF P → ld f < 2 ^ 30) (ht : tOk P t) : zwp (f_X12_hourGoes (70 : Int32) mcode (qDb P) (b2 dl) (nI (qF P)) mga mha mlight (nI (qNl P)) mpile rows (nI (qH P)) mtold mwl mways (nI (qW P))) (fun r => rRow (qF P) 70 r.2.1 (hr + 1) (sHr P wl ld hr dl t).1 (sHr P wl ld hr dl t).2.1 (sHr P wl ld hr dl t).2.2 ld wl ∧ ∀ k, k < 70 → r.2.1 k = rows k) := by
  refine zwp_mono (m_hourGoes hP hm (b := 70) (Nat.le_refl _) hR (by omega) hl dl_b2 ht.1 ht.2) ?_
  rintro r ⟨h1, h2⟩
  exact ⟨h1, fun k hk => h2 k (Or.inl hk)⟩
theorem m_clouds {P : Pl} (hP : plOk P) {hr pn wl : Nat} {ncell nsore nheld nlead : Nat → Int32} {mwl mways mlight mcode rows mtold mpile : Nat → Int32} {mga mha mthr : Int32} (hm : mPl P mwl mways mlight mcode mga mha) (hN : NowR P hr pn wl ncell nsore nheld nlead rows) {a1 a2 a3 a4 : Int32} : zwp (f_X12_clouds a1 a2 a3 a4 mcode (qDb P) (-1 : Int32) (nI (qF P)) mga mha mlight (nI (qNl P)) mpile rows (nI (qH P)) mthr mtold mwl mways (nI (qW P))) (fun r => r.1 = toV (cond (okN (qF P) a1) (cond (okN (qW P * qH P) a2) (cond (inR 1 5 a3) (cond (inR 0 10 a4) (.inl (sLk P wl hr (ncell, nsore, nheld) a1.toNatClampNeg a3.toNatClampNeg a2 a4 (2 ^ a3.toNatClampNeg))) (.inr true)) (.inr true)) (.inr false)) (.inr false)) ∧ r.2.2.2.2.1 = toT (cond (okN (qF P) a1) (cond (okN (qW P * qH P) a2) (cond (inR 1 5 a3) (cond (inR 0 10 a4) (.inl (sLk P wl hr (ncell, nsore, nheld) a1.toNatClampNeg a3.toNatClampNeg a2 a4 (2 ^ a3.toNatClampNeg))) (.inr true)) (.inr true)) (.inr false)) (.inr false)) ∧ r.2.1 = -1 ∧ ∀ k, k < 70 → r.2.2.2.1 k = rows k) := by
  have hF := hP.2.2.2.2.1
  have hWH := hP.wh
  unfold f_X12_clouds
  refine zi_beq (m_isFigure (F := qF P) (by omega)) ?_
  cases hc0 : okN (qF P) a1 with
  | false => exact zi_t rfl (zwi ⟨rfl, rfl, rfl, fun _ _ => rfl⟩)
  | true =>
  refine zi_f (by decide) ?_
  refine zi_beq (m_isCell (W := qW P) (H := qH P) (by omega)) ?_
  cases hc1 : okN (qW P * qH P) a2 with
  | false => exact zi_t rfl (zwi ⟨rfl, rfl, rfl, fun _ _ => rfl⟩)
  | true =>
  refine zi_f (by decide) ?_
  refine zi_beq (m_within (lo := 1) (hi := 5) (by decide) (by decide)) ?_
  refine zi_bind (zwp_mono (Q := fun v => v = b2 (inR 1 5 a3 && inR 0 10 a4)) ?_ ?_)
  · cases inR 1 5 a3 with
    | false => exact zi_t rfl (zwi rfl)
    | true =>
      refine zi_f (by decide) ?_
      refine zi_beq (m_within (lo := 0) (hi := 10) (by decide) (by decide)) ?_
      cases inR 0 10 a4 with
      | false => exact zi_t rfl (zwi rfl)
      | true => exact zi_f (by decide) (zwi rfl)
  intro j6 e
  subst e
  refine zi_beq (m_right0 (by decide)) ?_
  cases hc2 : inR 1 5 a3 with
  | false => exact zi_t rfl (zwi ⟨rfl, rfl, rfl, fun _ _ => rfl⟩)
  | true =>
  cases hc3 : inR 0 10 a4 with
  | false => exact zi_t rfl (zwi ⟨rfl, rfl, rfl, fun _ _ => rfl⟩)
  | true =>
  refine zi_f (by decide) ?_
  obtain ⟨f, hf, rfl⟩ := okN_t hc0
  obtain ⟨n, hn1, hn, rfl⟩ := inR_t hc2
  clear hc0 hc1 hc2 hc3
  have h32 := two5 n hn
  have hr9 := hN.2.2.1
  rw [nI_clamp (show f < 2 ^ 31 by omega), nI_clamp (show n < 2 ^ 31 by omega)]
  dsimp only [cond]
  rw [one_shl n (by omega)]
  obtain ⟨N, hN2⟩ : ∃ N, N = 2 ^ n := ⟨_, rfl⟩
  rw [← hN2] at h32 ⊢
  refine zl_bind (P := fun u a => a.1 = sLk P wl hr (ncell, nsore, nheld) f n a2 a4 u ∧ a.2.1 = nI u ∧ ∀ j, j < 70 → a.2.2.2.2.1 j = rows j) (Post := fun b => b.1 = sLk P wl hr (ncell, nsore, nheld) f n a2 a4 N ∧ ∀ j, j < 70 → b.2.2.2.1 j = rows j) N (by omega) ⟨rfl, rfl, fun _ _ => rfl⟩ ?_ ?_ ?_
  · rintro u hu ⟨x9, x10, x13, x14, x15, x16⟩ ⟨e9, e10, hfr⟩
    dsimp only at e9 e10 hfr
    subst e9 e10
    refine zi_f (nI_ge hu (by omega)) ?_
    refine zi_bind (zwp_mono m_tries ?_)
    intro r0 ⟨t1, t2⟩
    have hR0 := rRow_cp hF hN.1 (fun j hj => (t2 j hj).trans (hfr j hj))
    have htk := fun k => sRunD_ok hP (wl := wl) (hr := hr) (dl := u.testBit) hN.tk k
    have hT := fun h => sLk_t (P := P) (wl := wl) (hr := hr) (t := (ncell, nsore, nheld)) (f := f) (n := n) (c := a2) (a := a4) (u := u) h
    have hFf := fun h => sLk_f (P := P) (wl := wl) (hr := hr) (t := (ncell, nsore, nheld)) (f := f) (n := n) (c := a2) (a := a4) (u := u) h
    generalize sLk P wl hr (ncell, nsore, nheld) f n a2 a4 (u + 1) = Z at hT hFf ⊢
    dsimp only
    refine zl_bind (P := fun k a => ∃ d p r t, a = (sWt u a4 k, nI k, d, p, r, t) ∧ rRow (qF P) 70 r (hr + k) (sRunD P wl hr (ncell, nsore, nheld) u.testBit k).1 (sRunD P wl hr (ncell, nsore, nheld) u.testBit k).2.1 (sRunD P wl hr (ncell, nsore, nheld) u.testBit k).2.2 (fun _ => 0) wl ∧ ∀ j, j < 70 → r j = rows j) (Post := fun b => b.1 = sWt u a4 n ∧ b.2.2.2.1 (70 + 1 + f) = (sRunD P wl hr (ncell, nsore, nheld) u.testBit n).1 f ∧ ∀ j, j < 70 → b.2.2.2.1 j = rows j) n (by omega) ⟨_, _, _, _, rfl, hR0, fun j hj => (t1 j hj).trans (hfr j hj)⟩ ?_ ?_ ?_
    · rintro k hk _ ⟨d, p, r, t, rfl, h1, h2⟩
      refine zi_f (nI_ge hk (by omega)) ?_
      dsimp only
      rw [bit_sh u (by omega) k (by omega)]
      refine zi_bind (zwp_mono (Q := fun v => v = if u.testBit k then a4 else 10 - a4) ?_ ?_)
      · cases u.testBit k with
        | true => exact zi_t rfl (zwi rfl)
        | false => exact zi_f (by decide) (zwi rfl)
      intro j66 e
      subst e
      refine zi_bind (zwp_mono (m_hourD hP hm h1 (by omega) (fun f _ => by omega) (htk k)) ?_)
      rintro ⟨q1, q2, q3⟩ ⟨g1, g2⟩
      dsimp only at g1 g2
      exact zwi ⟨_, _, _, _, by rw [nI_1]; rfl, g1, fun j hj => (g2 j hj).trans (h2 j hj)⟩
    · rintro _ ⟨d, p, r, t, rfl, h1, h2⟩
      exact zi_t (nI_le (Nat.le_refl _) (by omega)) (zwi ⟨rfl, h1.2.1 f hf, h2⟩)
    rintro ⟨y32, y34, y35, y36, y37⟩ ⟨h32', h36, h37⟩
    dsimp only at h32' h36 h37 ⊢
    rw [ix71, zbnd_nI (by omega) (by decide), nI_clamp (show 70 + 1 + f < 2 ^ 31 by omega)]
    refine zi_bind (zi_c (fun q => zwi (zwi ?_)) (fun q => zwi (zwi ?_)))
    · exact ⟨by rw [hT (h36.symm.trans q), h32'], by rw [nI_1], h37⟩
    · exact ⟨by rw [hFf (fun e => q (h36.trans e))]; exact Int32.add_zero _, by rw [nI_1], h37⟩
  · rintro ⟨x9, x10, x13, x14, x15, x16⟩ ⟨e9, e10, hfr⟩
    dsimp only at e9 e10 hfr
    subst e10
    exact zi_t (nI_le (Nat.le_refl _) (by omega)) (zwi ⟨e9, hfr⟩)
  · rintro ⟨y1, y2, y3, y4, y5⟩ ⟨e, hfr⟩
    dsimp only at e hfr
    subst e
    exact zwi ⟨rfl, rfl, rfl, hfr⟩
