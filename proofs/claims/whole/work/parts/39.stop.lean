/-! TOWNS THAT ARE ALIKE AS FAR AS THERE ARE FIGURES; TO STOP -/
def tEq (F : Nat) (t u : Tn) : Prop := ∀ f, f < F → t.1 f = u.1 f ∧ t.2.1 f = u.2.1 f ∧ t.2.2 f = u.2.2 f
theorem sWith_cg {F f : Nat} {cell cell' : Nat → Int32} (h : ∀ g, g < F → cell g = cell' g) (hf : f < F) : sWith F cell f = sWith F cell' f := by
  unfold sWith
  congr 1
  exact fb_ct_cong (fun k hk => by rw [h k hk, h f hf])
theorem sVals_cg {P : Pl} {hr ld f : Nat} {cell cell' sore sore' held held' : Nat → Int32} (h : ∀ g, g < qF P → cell g = cell' g) (h2 : sore f = sore' f) (h3 : held f = held' f) (hf : f < qF P) : sVals P hr ld cell sore held f = sVals P hr ld cell' sore' held' f := by
  funext v
  unfold sVals
  rw [sWith_cg h hf, h2, h3]
theorem sFig_cg {P : Pl} (hP : plOk P) {wl hr f : Nat} {ld : Nat → Nat} {dl : Bool} {held held' : Nat → Int32} {s s' : (Nat → Int32) × (Nat → Int32)} (h1 : ∀ g, g < qF P → s.1 g = s'.1 g) (h2 : ∀ g, g < qF P → s.2 g = s'.2 g) (h3 : ∀ g, g < qF P → held g = held' g) (hf : f < qF P) : (∀ g, g < qF P → (sFig P wl hr ld dl held f s).1 g = (sFig P wl hr ld dl held' f s').1 g) ∧ ∀ g, g < qF P → (sFig P wl hr ld dl held f s).2 g = (sFig P wl hr ld dl held' f s').2 g := by
  have ev := sVals_cg (P := P) (hr := hr) (ld := ld f) (f := f) h1 (h2 f hf) (h3 f hf) hf
  have ew : sWants P hr (ld f) s.1 s.2 held f = sWants P hr (ld f) s'.1 s'.2 held' f := by unfold sWants; rw [ev, h2 f hf]
  have eh : sHurt P hr (ld f) s.1 s.2 held f = sHurt P hr (ld f) s'.1 s'.2 held' f := by unfold sHurt; rw [ev]
  unfold sFig
  rw [h3 f hf, ew, eh, h2 f hf]
  by_cases hq : held' f ≤ 0 ∨ dl = true
  · rw [if_pos hq, if_pos hq]
    by_cases hw : sWants P hr (ld f) s'.1 s'.2 held' f = true
    · rw [if_pos hw, if_pos hw]
      refine ⟨fun g hg => ?_, h2⟩
      show sGo P wl hr (ld f) s.1 f g = sGo P wl hr (ld f) s'.1 f g
      unfold sGo
      rw [h1 f hf]
      cases sBeside (qW P) (qH P) (s'.1 f).toNatClampNeg (sStep P f (hr + ld f)) with
      | none => exact h1 g hg
      | some c =>
        show (if wl.testBit c then s.1 else upd s.1 f (nI c)) g = (if wl.testBit c then s'.1 else upd s'.1 f (nI c)) g
        by_cases hb : wl.testBit c = true
        · rw [if_pos hb, if_pos hb]; exact h1 g hg
        · rw [if_neg hb, if_neg hb]
          by_cases he : g = f
          · subst he; rw [pk_us, pk_us]
          · rw [pk_un he, pk_un he]; exact h1 g hg
    · rw [if_neg hw, if_neg hw]; exact ⟨h1, h2⟩
  · rw [if_neg hq, if_neg hq]
    refine ⟨h1, fun g hg => ?_⟩
    show upd s.2 f _ g = upd s'.2 f _ g
    by_cases he : g = f
    · subst he; rw [pk_us, pk_us]
    · rw [pk_un he, pk_un he]; exact h2 g hg
theorem sFigs_cg {P : Pl} (hP : plOk P) {wl hr : Nat} {ld : Nat → Nat} {dl : Bool} {held held' : Nat → Int32} {s s' : (Nat → Int32) × (Nat → Int32)} (h1 : ∀ g, g < qF P → s.1 g = s'.1 g) (h2 : ∀ g, g < qF P → s.2 g = s'.2 g) (h3 : ∀ g, g < qF P → held g = held' g) : ∀ k, k ≤ qF P → (∀ g, g < qF P → (sFigs P wl hr ld dl held s k).1 g = (sFigs P wl hr ld dl held' s' k).1 g) ∧ ∀ g, g < qF P → (sFigs P wl hr ld dl held s k).2 g = (sFigs P wl hr ld dl held' s' k).2 g
  | 0, _ => ⟨h1, h2⟩
  | k + 1, hk => by
    have ih := sFigs_cg hP (wl := wl) (hr := hr) (ld := ld) (dl := dl) h1 h2 h3 k (by omega)
    exact sFig_cg hP ih.1 ih.2 h3 (by omega)
theorem sHr_cg {P : Pl} (hP : plOk P) {wl hr : Nat} {ld : Nat → Nat} {dl : Bool} {t u : Tn} (h : tEq (qF P) t u) : tEq (qF P) (sHr P wl ld hr dl t) (sHr P wl ld hr dl u) := by
  have hs := sFigs_cg hP (wl := wl) (hr := hr) (ld := ld) (dl := dl) (held := t.2.2) (held' := u.2.2) (s := (t.1, t.2.1)) (s' := (u.1, u.2.1)) (fun g hg => (h g hg).1) (fun g hg => (h g hg).2.1) (fun g hg => (h g hg).2.2) (qF P) (Nat.le_refl _)
  intro f hf
  refine ⟨hs.1 f hf, hs.2 f hf, ?_⟩
  show sDec t.2.2 (qF P) f = sDec u.2.2 (qF P) f
  unfold sDec
  rw [(h f hf).2.2]
theorem sRun_cg {P : Pl} (hP : plOk P) {wl hr : Nat} {ld : Nat → Nat} {t u : Tn} (h : tEq (qF P) t u) : ∀ k, tEq (qF P) (sRun P wl ld hr t k) (sRun P wl ld hr u k)
  | 0 => h
  | k + 1 => sHr_cg hP (sRun_cg hP h k)
/-- held so long from now on -/
def tHeld (ncell nsore nheld : Nat → Int32) (f : Nat) (v : Int32) : Tn := (ncell, nsore, upd nheld f v)
theorem tHeld_ok {P : Pl} {ncell nsore nheld : Nat → Int32} {f k : Nat} (h : tOk P (ncell, nsore, nheld)) (hk : k < 2 ^ 30) : tOk P (tHeld ncell nsore nheld f (nI k)) := by
  refine ⟨h.1, fun g hg => ?_⟩
  show ∃ h, upd nheld f (nI k) g = nI h ∧ _
  by_cases he : g = f
  · subst he; exact ⟨k, pk_us, hk⟩
  · rw [pk_un he]; exact h.2 g hg
theorem ix87 {f : Nat} : (87 : Int32) + nI f = nI (70 + 17 + f) := by rw [show (87 : Int32) = nI 87 from rfl, nI_add]
theorem c_toStop {P : Pl} (hP : plOk P) {hr pn wl : Nat} {ncell nsore nheld nlead fcell fsore fheld flead vals gst hst : Nat → Int32} {ffig fhr fpn : Int32} {fwl : Int64} {rows : Nat → Int32} (hN : NowR P hr pn wl ncell nsore nheld nlead rows) {a1 a2 a3 : Int32} : zwp (f_X11_toStop a1 a2 a3 fcell ffig fheld fhr flead fpn fsore fwl vals ncell (nI (qF P)) nheld (nI hr) nlead (nI pn) nsore (lN wl) (qDb P) (nI (qF P)) (qGc P) (nI (qGn P)) gst (nI (qH P)) (qHc P) (nI (qHn P)) hst (qLt P) (nI (qNl P)) (qSt P) (qWy P) (nI (qW P))) (fun r => r.1 = toC (cond (okN (qF P) a1) (cond (okN (qW P * qH P) a2) (cond (inR 0 100 a3) (.inl (fstI (fun k => (sRun P wl (fun _ => 0) hr (tHeld ncell nsore nheld a1.toNatClampNeg (nI k)) a3.toNatClampNeg).1 a1.toNatClampNeg == a2) 0 10)) (.inr true)) (.inr false)) (.inr false))) := by
  have hF := hP.2.2.2.2.1
  have hWH := hP.wh
  unfold f_X11_toStop
  refine zi_beq (c_checkFigure (F := qF P) (by omega)) ?_
  cases hc0 : okN (qF P) a1 with
  | false => exact zwi rfl
  | true =>
    refine zi_beq (c_checkCell (W := qW P) (H := qH P) (by omega)) ?_
    cases hc1 : okN (qW P * qH P) a2 with
    | false => exact zwi rfl
    | true =>
      refine zi_beq (c_checkHours (lo := 0) (hi := 100) (by decide) (by decide)) ?_
      cases hc2 : inR 0 100 a3 with
      | false => exact zwi rfl
      | true =>
        obtain ⟨na1, ha1, rfl⟩ := okN_t hc0
        obtain ⟨na2, ha2, rfl⟩ := okN_t hc1
        obtain ⟨na3, la3, ha3, rfl⟩ := inR_t hc2
        rw [nI_clamp (show na1 < 2 ^ 31 by omega), nI_clamp (show na3 < 2 ^ 31 by omega)]
        generalize hp : (fun k => (sRun P wl (fun _ => 0) hr (tHeld ncell nsore nheld na1 (nI k)) na3).1 na1 == nI na2) = p
        have hpk : ∀ k, p k = ((sRun P wl (fun _ => 0) hr (tHeld ncell nsore nheld na1 (nI k)) na3).1 na1 == nI na2) := fun k => by rw [← hp]
        refine zl_bs (P := fun k a => a.1 = nI k ∧ fstI p 0 10 = fstI p k (10 - k)) (Post := fun _ => fstI p 0 10 = -1) 10 (by decide) ⟨rfl, rfl⟩ ?_ ?_ ?_
        · rintro k hk ⟨x4, x5, x6, x7, x8, x9, x10, x11, x12, x13, x14, x15⟩ ⟨rfl, hfs⟩
          rw [show 10 - k = (9 - k) + 1 by omega] at hfs
          refine zi_f (by rw [show (9 : Int32) = nI 9 from rfl]; exact nI_nlt (by omega) (by omega)) ?_
          unfold f_X8_copyFrom
          refine zi_beq rfl ?_
          show zwp (zbnd (nI na1) 8 _) _
          rw [zbnd_nI (by omega) (by decide)]
          have hld : ∀ f, f < qF P → va_cpy nlead x9 0 0 8 f = nI 0 := fun f hf => by rw [cpy8 (by omega)]; exact hN.2.2.2.2.2.2.2.2 f hf
          have htq : tEq (qF P) (va_cpy ncell x5 0 0 8, va_cpy nsore x11 0 0 8, upd (va_cpy nheld x7 0 0 8) na1 (nI k)) (tHeld ncell nsore nheld na1 (nI k)) := by
            intro f hf
            refine ⟨cpy8 (by omega), cpy8 (by omega), ?_⟩
            show upd (va_cpy nheld x7 0 0 8) na1 (nI k) f = upd nheld na1 (nI k) f
            by_cases he : f = na1
            · subst he; rw [pk_us, pk_us]
            · rw [pk_un he, pk_un he]; exact cpy8 (by omega)
          have htk : tOk P (va_cpy ncell x5 0 0 8, va_cpy nsore x11 0 0 8, upd (va_cpy nheld x7 0 0 8) na1 (nI k)) := by
            have h0 := tHeld_ok (f := na1) (k := k) hN.tk (by omega)
            refine ⟨fun f hf => ?_, fun f hf => ?_⟩
            · have := (htq f hf).1
              dsimp only at this ⊢
              rw [this]; exact h0.1 f hf
            · have := (htq f hf).2.2
              dsimp only at this ⊢
              rw [this]; exact h0.2 f hf
          refine zi_bind (zwp_mono (c_passHours hP (ld := fun _ => 0) (by omega) (by have := hN.2.2.1; omega) (fun f hf => ⟨hld f hf, by omega⟩) (hN.wl63 hP) htk) ?_)
          rintro ⟨q1, q2, q3, q4, q5, q6, q7⟩ ⟨g1, g2, g3, g4⟩
          dsimp only at g1 g2 g3 g4 ⊢
          have hcell : q3 na1 = (sRun P wl (fun _ => 0) hr (tHeld ncell nsore nheld na1 (nI k)) na3).1 na1 := by rw [g1]; exact (sRun_cg hP htq na3 na1 ha1).1
          rw [zbnd_nI (by omega) (by decide), hcell]
          refine zi_c (fun q => ?_) (fun q => ?_)
          · refine zwi ?_
            show Sum.inl (nI k) = toC _
            rw [hfs, fstI_t (by rw [hpk]; simp [q])]; rfl
          · rw [fstI_f (lo := k) (by rw [hpk]; simp [q])] at hfs
            refine zwi ⟨by rw [nI_1], ?_⟩
            rw [hfs]; congr 1; omega
        · rintro ⟨x4, x5, x6, x7, x8, x9, x10, x11, x12, x13, x14, x15⟩ ⟨hx, hfs⟩
          dsimp only at hx
          subst hx
          exact zi_t (by decide) (zwi hfs)
        · rintro ⟨y1, y2, y3, y4, y5, y6, y7, y8, y9, y10, y11⟩ hfs
          refine zwi ?_
          rw [hfs]; rfl
theorem m_toStop {P : Pl} (hP : plOk P) {hr pn wl : Nat} {ncell nsore nheld nlead fcell fsore fheld : Nat → Int32} {mwl mways mlight mcode rows mtold mpile : Nat → Int32} {mga mha mthr : Int32} (hm : mPl P mwl mways mlight mcode mga mha) (hN : NowR P hr pn wl ncell nsore nheld nlead rows) {a1 a2 a3 : Int32} : zwp (f_X12_toStop a1 a2 a3 mcode (qDb P) (-1 : Int32) (nI (qF P)) mga mha mlight (nI (qNl P)) mpile rows (nI (qH P)) mthr mtold mwl mways (nI (qW P))) (fun r => r.1 = toV (cond (okN (qF P) a1) (cond (okN (qW P * qH P) a2) (cond (inR 0 100 a3) (.inl (fstI (fun k => (sRun P wl (fun _ => 0) hr (tHeld ncell nsore nheld a1.toNatClampNeg (nI k)) a3.toNatClampNeg).1 a1.toNatClampNeg == a2) 0 10)) (.inr true)) (.inr false)) (.inr false)) ∧ r.2.2.2.1 = toT (cond (okN (qF P) a1) (cond (okN (qW P * qH P) a2) (cond (inR 0 100 a3) (.inl (fstI (fun k => (sRun P wl (fun _ => 0) hr (tHeld ncell nsore nheld a1.toNatClampNeg (nI k)) a3.toNatClampNeg).1 a1.toNatClampNeg == a2) 0 10)) (.inr true)) (.inr false)) (.inr false)) ∧ ∀ k, k < 70 → r.2.2.1 k = rows k) := by
  have hF := hP.2.2.2.2.1
  have hWH := hP.wh
  unfold f_X12_toStop
  refine zi_beq (m_isFigure (F := qF P) (by omega)) ?_
  cases hc0 : okN (qF P) a1 with
  | false => exact zi_t rfl (zwi ⟨rfl, rfl, fun _ _ => rfl⟩)
  | true =>
    refine zi_f (by decide) ?_
    refine zi_beq (m_isCell (W := qW P) (H := qH P) (by omega)) ?_
    cases hc1 : okN (qW P * qH P) a2 with
    | false => exact zi_t rfl (zwi ⟨rfl, rfl, fun _ _ => rfl⟩)
    | true =>
      refine zi_f (by decide) ?_
      refine zi_beq (m_isSoon (lo := 0) (w := 2) (by decide) (by decide)) ?_
      cases hc2 : inR 0 100 a3 with
      | false => exact zi_t rfl (zwi ⟨rfl, rfl, fun _ _ => rfl⟩)
      | true =>
        refine zi_f (by decide) ?_
        obtain ⟨na1, ha1, rfl⟩ := okN_t hc0
        obtain ⟨na2, ha2, rfl⟩ := okN_t hc1
        obtain ⟨na3, la3, ha3, rfl⟩ := inR_t hc2
        rw [nI_clamp (show na1 < 2 ^ 31 by omega), nI_clamp (show na3 < 2 ^ 31 by omega)]
        generalize hp : (fun k => (sRun P wl (fun _ => 0) hr (tHeld ncell nsore nheld na1 (nI k)) na3).1 na1 == nI na2) = p
        have hpk : ∀ k, p k = ((sRun P wl (fun _ => 0) hr (tHeld ncell nsore nheld na1 (nI k)) na3).1 na1 == nI na2) := fun k => by rw [← hp]
        refine zl_bs (P := fun k a => a.1 = nI k ∧ (∀ j, j < 70 → a.2.2.1 j = rows j) ∧ fstI p 0 10 = fstI p k (10 - k)) (Post := fun b => fstI p 0 10 = -1 ∧ ∀ j, j < 70 → b.2.1 j = rows j) 10 (by decide) ⟨rfl, fun _ _ => rfl, rfl⟩ ?_ ?_ ?_
        · rintro k hk ⟨x7, x8, x9, x10⟩ ⟨hx, hrw, hfs⟩
          dsimp only at hx hrw
          subst hx
          rw [show 10 - k = (9 - k) + 1 by omega] at hfs
          refine zi_f (by rw [show (10 : Int32) = nI 10 from rfl]; exact nI_ge (by omega) (by omega)) ?_
          refine zi_bind (zwp_mono m_tries ?_)
          intro r0 ⟨t1, t2⟩
          have hR0 := rRow_cp hF hN.1 (fun j hj => (t2 j hj).trans (hrw j hj))
          rw [ix87, zbnd_nI (by omega) (by decide), nI_clamp (show 70 + 17 + na1 < 2 ^ 31 by omega)]
          have hR1 := rRow_held (v := nI k) hF ha1 hR0
          refine zi_bind (zwp_mono (m_hoursGo hP hm (t := tHeld ncell nsore nheld na1 (nI k)) hR1 (by omega) (by have := hN.2.2.1; omega) (fun f _ => by omega) (tHeld_ok hN.tk (by omega))) ?_)
          rintro ⟨q1, q2, q3⟩ ⟨g1, g2⟩
          dsimp only at g1 g2 ⊢
          have hfr : ∀ j, j < 70 → q2 j = rows j := fun j hj => by rw [g2 j hj, pk_un (by omega), t1 j hj, hrw j hj]
          rw [ix71, zbnd_nI (by omega) (by decide), nI_clamp (by omega), g1.2.1 na1 ha1]
          refine zi_c (fun q => ?_) (fun q => ?_)
          · refine zwi ⟨?_, rfl, hfr⟩
            show nI k = fstI p 0 10
            rw [hfs, fstI_t (by rw [hpk]; simp [q])]
          · rw [fstI_f (lo := k) (by rw [hpk]; simp [q])] at hfs
            refine zwi ⟨by rw [nI_1], hfr, ?_⟩
            rw [hfs]; congr 1; omega
        · rintro ⟨x7, x8, x9, x10⟩ ⟨hx, hrw, hfs⟩
          dsimp only at hx hrw
          subst hx
          exact zi_t (by decide) (zwi ⟨hfs, hrw⟩)
        · rintro ⟨y1, y2, y3⟩ ⟨hfs, h2⟩
          exact zwi ⟨hfs.symm, rfl, h2⟩
