/-! FIGURE, GAME -/
theorem c_figure {P : Pl} (hP : plOk P) {hr pn wl : Nat} {ncell nsore nheld nlead rows : Nat → Int32} (hN : NowR P hr pn wl ncell nsore nheld nlead rows) {a1 a2 : Int32} : zwp (f_X11_figure a1 a2 ncell (nI (qF P)) nheld (nI hr) nlead nsore (nI (qF P)) (qSt P) (qWy P)) (fun r => r = toN (cond (okN (qF P) a1) (cond (okN (6 + 1) a2) (some (if a2 = 0 then ncell a1.toNatClampNeg else if a2 = 1 then qSt P a1.toNatClampNeg else if a2 = 2 then nsore a1.toNatClampNeg else if a2 = 3 then nheld a1.toNatClampNeg else if a2 = 4 then sStep P a1.toNatClampNeg (hr + 0) else if a2 = 5 then nI 0 else nI (sWith (qF P) ncell a1.toNatClampNeg))) none) none)) := by
  have hF := hP.2.2.2.2.1
  have hWH := hP.wh
  have hr9 := hN.2.2.1
  unfold f_X11_figure
  refine zi_beq (c_checkFigure (F := qF P) (by omega)) ?_
  cases hc0 : okN (qF P) a1 with
  | false => exact zwi rfl
  | true =>
    obtain ⟨f, hf, rfl⟩ := okN_t hc0
    rw [nI_clamp (show f < 2 ^ 31 by omega)]
    have hld := hN.2.2.2.2.2.2.2.2 f hf
    cases hc1 : okN (6 + 1) a2 with
    | false =>
      have hno : ¬ ((0 : Int) ≤ a2.toInt ∧ a2.toInt < (6 + 1 : Nat)) := of_decide_eq_false hc1
      have ne : ∀ k : Nat, k < 7 → ¬ a2 = nI k := fun k hk e => hno (by rw [e, nI_toInt (by omega)]; omega)
      exact zi_f (ne 0 (by decide)) (zi_f (ne 1 (by decide)) (zi_f (ne 2 (by decide)) (zi_f (ne 3 (by decide)) (zi_f (ne 4 (by decide)) (zi_f (ne 5 (by decide)) (zi_f (ne 6 (by decide)) (zwi rfl)))))))
    | true =>
      obtain ⟨k, hk, rfl⟩ := okN_t hc1
      have hcase : k = 0 ∨ k = 1 ∨ k = 2 ∨ k = 3 ∨ k = 4 ∨ k = 5 ∨ k = 6 := by omega
      rcases hcase with rfl | rfl | rfl | rfl | rfl | rfl | rfl
      · refine zi_t rfl ?_
        rw [zbnd_nI (by omega) (by decide)]; exact zwi rfl
      · refine zi_f (by decide) (zi_t rfl ?_)
        rw [zbnd_nI (by omega) (by decide)]; exact zwi rfl
      · refine zi_f (by decide) (zi_f (by decide) (zi_t rfl ?_))
        rw [zbnd_nI (by omega) (by decide)]; exact zwi rfl
      · refine zi_f (by decide) (zi_f (by decide) (zi_f (by decide) (zi_t rfl ?_)))
        rw [zbnd_nI (by omega) (by decide)]; exact zwi rfl
      · refine zi_f (by decide) (zi_f (by decide) (zi_f (by decide) (zi_f (by decide) (zi_t rfl ?_))))
        rw [zbnd_nI (by omega) (by decide), hld, nI_add]
        exact zi_beq (c_step hP hf (by omega)) (zwi rfl)
      · refine zi_f (by decide) (zi_f (by decide) (zi_f (by decide) (zi_f (by decide) (zi_f (by decide) (zi_t rfl ?_)))))
        rw [zbnd_nI (by omega) (by decide), hld]; exact zwi rfl
      · refine zi_f (by decide) (zi_f (by decide) (zi_f (by decide) (zi_f (by decide) (zi_f (by decide) (zi_f (by decide) (zi_t rfl ?_))))))
        exact zi_beq (c_othersWith hF hf) (zwi rfl)
theorem m_figure {P : Pl} (hP : plOk P) {hr pn wl : Nat} {ncell nsore nheld nlead rows : Nat → Int32} (hN : NowR P hr pn wl ncell nsore nheld nlead rows) {mwl mways mlight mcode : Nat → Int32} {mga mha mthr : Int32} (hm : mPl P mwl mways mlight mcode mga mha) {a1 a2 : Int32} : zwp (f_X12_figure a1 a2 (nI (qF P)) rows mthr mwl mways) (fun s => s.1 = toW (cond (okN (qF P) a1) (cond (okN (6 + 1) a2) (some (if a2 = 0 then ncell a1.toNatClampNeg else if a2 = 1 then qSt P a1.toNatClampNeg else if a2 = 2 then nsore a1.toNatClampNeg else if a2 = 3 then nheld a1.toNatClampNeg else if a2 = 4 then sStep P a1.toNatClampNeg (hr + 0) else if a2 = 5 then nI 0 else nI (sWith (qF P) ncell a1.toNatClampNeg))) none) none) ∧ s.2 = toU (cond (okN (qF P) a1) (cond (okN (6 + 1) a2) (some (if a2 = 0 then ncell a1.toNatClampNeg else if a2 = 1 then qSt P a1.toNatClampNeg else if a2 = 2 then nsore a1.toNatClampNeg else if a2 = 3 then nheld a1.toNatClampNeg else if a2 = 4 then sStep P a1.toNatClampNeg (hr + 0) else if a2 = 5 then nI 0 else nI (sWith (qF P) ncell a1.toNatClampNeg))) none) none)) := by
  have hF := hP.2.2.2.2.1
  have hWH := hP.wh
  have hr9 := hN.2.2.1
  obtain ⟨r0, r1, r2, r3, r4, r5⟩ := hN.1
  unfold f_X12_figure
  refine zi_beq (m_isFigure (F := qF P) (by omega)) ?_
  cases hc0 : okN (qF P) a1 with
  | false => exact zi_t rfl (zwi ⟨rfl, rfl⟩)
  | true =>
    refine zi_f (by decide) ?_
    refine zi_beq (m_isWhat (n := 6) (by decide)) ?_
    obtain ⟨f, hf, rfl⟩ := okN_t hc0
    rw [nI_clamp (show f < 2 ^ 31 by omega)]
    cases hc1 : okN (6 + 1) a2 with
    | false => exact zi_t rfl (zwi ⟨rfl, rfl⟩)
    | true =>
      refine zi_f (by decide) ?_
      obtain ⟨k, hk, rfl⟩ := okN_t hc1
      have hcase : k = 0 ∨ k = 1 ∨ k = 2 ∨ k = 3 ∨ k = 4 ∨ k = 5 ∨ k = 6 := by omega
      rcases hcase with rfl | rfl | rfl | rfl | rfl | rfl | rfl
      · refine zi_t rfl ?_
        rw [ix1, zbnd_nI (by omega) (by decide), nI_clamp (by omega), r1 f hf]; exact zwi ⟨rfl, rfl⟩
      · refine zi_f (by decide) (zi_t rfl ?_)
        rw [zbnd_nI (by omega) (by decide), hm.1 f hf]; exact zwi ⟨rfl, rfl⟩
      · refine zi_f (by decide) (zi_f (by decide) (zi_t rfl ?_))
        rw [ix9, zbnd_nI (by omega) (by decide), nI_clamp (by omega), r2 f hf]; exact zwi ⟨rfl, rfl⟩
      · refine zi_f (by decide) (zi_f (by decide) (zi_f (by decide) (zi_t rfl ?_)))
        rw [ix17, zbnd_nI (by omega) (by decide), nI_clamp (by omega), r3 f hf]; exact zwi ⟨rfl, rfl⟩
      · refine zi_f (by decide) (zi_f (by decide) (zi_f (by decide) (zi_f (by decide) (zi_t rfl ?_))))
        exact zi_beq (m_stepOf hP (b := 0) (l := 0) hf (by omega) hm.1 hm.2.1 r0 (r4 f hf) (by omega) (by omega)) (zwi ⟨rfl, rfl⟩)
      · refine zi_f (by decide) (zi_f (by decide) (zi_f (by decide) (zi_f (by decide) (zi_f (by decide) (zi_t rfl ?_)))))
        rw [ix25, zbnd_nI (by omega) (by decide), nI_clamp (by omega), r4 f hf]; exact zwi ⟨rfl, rfl⟩
      · refine zi_f (by decide) (zi_f (by decide) (zi_f (by decide) (zi_f (by decide) (zi_f (by decide) (zi_f (by decide) ?_)))))
        exact zi_beq (m_withIt (b := 0) hF hf (by omega) r1) (zwi ⟨rfl, rfl⟩)
/-- two choices: held for three hours, or as it is -/
def tGame (ncell nsore nheld : Nat → Int32) (f g : Nat) (x y : Bool) : Tn := (ncell, nsore, if y then upd (if x then upd nheld f 3 else nheld) g 3 else (if x then upd nheld f 3 else nheld))
theorem tGame_ok {P : Pl} {ncell nsore nheld : Nat → Int32} {f g : Nat} {x y : Bool} (h : tOk P (ncell, nsore, nheld)) : tOk P (tGame ncell nsore nheld f g x y) := by
  refine ⟨h.1, ?_⟩
  have key : ∀ (u : Nat → Int32) (j : Nat), hdOk (qF P) u → hdOk (qF P) (upd u j 3) := by
    intro u j hu k hk
    by_cases he : k = j
    · subst he; exact ⟨3, pk_us, by decide⟩
    · rw [pk_un he]; exact hu k hk
  show hdOk (qF P) (if y then upd (if x then upd nheld f 3 else nheld) g 3 else (if x then upd nheld f 3 else nheld))
  cases x <;> cases y
  · exact h.2
  · exact key _ _ h.2
  · exact key _ _ h.2
  · exact key _ _ (key _ _ h.2)
/-- what one gains in eight hours from a town on -/
noncomputable def sAcc (P : Pl) (wl hr : Nat) (t : Tn) (f : Nat) : Nat → Int32
  | 0 => 0
  | k + 1 => sAcc P wl hr t f k + (if nI (sWith (qF P) (sRun P wl (fun _ => 0) hr t (k + 1)).1 f) ≤ 0 then 0 else 2)
noncomputable def sGain (P : Pl) (wl hr : Nat) (t : Tn) (f : Nat) : Int32 := sAcc P wl hr t f 8 - (sRun P wl (fun _ => 0) hr t 8).2.1 f / 2
theorem sGain_cg {P : Pl} (hP : plOk P) {wl hr : Nat} {t u : Tn} {f : Nat} (hf : f < qF P) (h : tEq (qF P) t u) : sGain P wl hr t f = sGain P wl hr u f := by
  have ha : ∀ k, sAcc P wl hr t f k = sAcc P wl hr u f k := by
    intro k
    induction k with
    | zero => rfl
    | succ k ih =>
      unfold sAcc
      rw [ih, sWith_cg (fun g hg => (sRun_cg hP (wl := wl) (hr := hr) (ld := fun _ => 0) h (k + 1) g hg).1) hf]
  unfold sGain
  rw [ha, (sRun_cg hP (wl := wl) (hr := hr) (ld := fun _ => 0) h 8 f hf).2.1]
theorem tGame_sw {F : Nat} {ncell nsore nheld : Nat → Int32} {f g : Nat} {x y : Bool} (hfg : ¬ f = g) : tEq F (tGame ncell nsore nheld g f y x) (tGame ncell nsore nheld f g x y) := by
  intro k _
  refine ⟨rfl, rfl, ?_⟩
  show (if x then upd (if y then upd nheld g 3 else nheld) f 3 else (if y then upd nheld g 3 else nheld)) k = (if y then upd (if x then upd nheld f 3 else nheld) g 3 else (if x then upd nheld f 3 else nheld)) k
  cases x <;> cases y
  · rfl
  · rfl
  · rfl
  · show upd (upd nheld g 3) f 3 k = upd (upd nheld f 3) g 3 k
    rw [fa_upd_swap _ (fun e => hfg e.symm)]
theorem m_gains {P : Pl} (hP : plOk P) {hr pn wl f g : Nat} {x y : Bool} {ncell nsore nheld nlead rows : Nat → Int32} {mwl mways mlight mcode rows0 mtold mpile : Nat → Int32} {mga mha : Int32} (hm : mPl P mwl mways mlight mcode mga mha) (hN : NowR P hr pn wl ncell nsore nheld nlead rows) (h0 : ∀ k, k < 70 → rows0 k = rows k) (hf : f < qF P) (hg : g < qF P) : zwp (f_X12_gains (nI f) (nI g) (b2 x) (b2 y) mcode (qDb P) (-1 : Int32) (nI (qF P)) mga mha mlight (nI (qNl P)) mpile rows0 (nI (qH P)) mtold mwl mways (nI (qW P))) (fun s => s.1 = sGain P wl hr (tGame ncell nsore nheld f g x y) f ∧ ∀ k, k < 70 → s.2.2.1 k = rows k) := by
  have hF := hP.2.2.2.2.1
  have hr9 := hN.2.2.1
  unfold f_X12_gains
  refine zi_bind (zwp_mono m_tries ?_)
  intro r0 ⟨t1, t2⟩
  have hR0 := rRow_cp hF hN.1 (fun j hj => (t2 j hj).trans (h0 j hj))
  have t1' : ∀ k, k < 70 → r0 k = rows k := fun k hk => (t1 k hk).trans (h0 k hk)
  refine zi_bind (zwp_mono (Q := fun j => rRow (qF P) 70 j hr ncell nsore (if x then upd nheld f 3 else nheld) (fun _ => 0) wl ∧ ∀ k, k < 70 → j k = rows k) ?_ ?_)
  · rw [ix87, zbnd_nI (by omega) (by decide), nI_clamp (by omega)]
    cases x with
    | true => exact zi_t rfl (zwi ⟨rRow_held hF hf hR0, fun k hk => by rw [pk_un (by omega)]; exact t1' k hk⟩)
    | false => exact zi_f (by decide) (zwi ⟨hR0, t1'⟩)
  rintro j2 ⟨hj, hj2⟩
  refine zi_bind (zwp_mono (Q := fun j => rRow (qF P) 70 j hr (tGame ncell nsore nheld f g x y).1 (tGame ncell nsore nheld f g x y).2.1 (tGame ncell nsore nheld f g x y).2.2 (fun _ => 0) wl ∧ ∀ k, k < 70 → j k = rows k) ?_ ?_)
  · rw [ix87, zbnd_nI (by omega) (by decide), nI_clamp (by omega)]
    cases y with
    | true => exact zi_t rfl (zwi ⟨rRow_held hF hg hj, fun k hk => by rw [pk_un (by omega)]; exact hj2 k hk⟩)
    | false => exact zi_f (by decide) (zwi ⟨hj, hj2⟩)
  rintro j3 ⟨hj3, hj4⟩
  have htk := tGame_ok (f := f) (g := g) (x := x) (y := y) hN.tk
  refine zl_bind (P := fun k a => ∃ p r t, a = (sAcc P wl hr (tGame ncell nsore nheld f g x y) f k, nI k, p, r, t) ∧ rRow (qF P) 70 r (hr + k) (sRun P wl (fun _ => 0) hr (tGame ncell nsore nheld f g x y) k).1 (sRun P wl (fun _ => 0) hr (tGame ncell nsore nheld f g x y) k).2.1 (sRun P wl (fun _ => 0) hr (tGame ncell nsore nheld f g x y) k).2.2 (fun _ => 0) wl ∧ ∀ j, j < 70 → r j = rows j) (Post := fun b => b.1 = sAcc P wl hr (tGame ncell nsore nheld f g x y) f 8 ∧ rRow (qF P) 70 b.2.2.1 (hr + 8) (sRun P wl (fun _ => 0) hr (tGame ncell nsore nheld f g x y) 8).1 (sRun P wl (fun _ => 0) hr (tGame ncell nsore nheld f g x y) 8).2.1 (sRun P wl (fun _ => 0) hr (tGame ncell nsore nheld f g x y) 8).2.2 (fun _ => 0) wl ∧ ∀ j, j < 70 → b.2.2.1 j = rows j) 8 (by decide) ⟨mpile, j3, mtold, rfl, hj3, hj4⟩ ?_ ?_ ?_
  · rintro k hk _ ⟨p1, r, t, rfl, h1, h2⟩
    refine zi_f (by rw [show (8 : Int32) = nI 8 from rfl]; exact nI_ge hk (by decide)) ?_
    refine zi_bind (zwp_mono (m_hourK hP hm h1 (by omega) (fun f _ => by omega) htk) ?_)
    rintro ⟨q1, q2, q3⟩ ⟨g1, g2⟩
    dsimp only at g1 g2 ⊢
    refine zi_beq (m_withIt (b := 70) hF hf (Nat.le_refl _) g1.2.1) ?_
    refine zi_beq (a := if nI (sWith (qF P) (sRun P wl (fun _ => 0) hr (tGame ncell nsore nheld f g x y) (k + 1)).1 f) ≤ 0 then 0 else 2) (by split <;> rfl) ?_
    exact zwi ⟨q1, q2, q3, by rw [nI_1]; rfl, g1, fun j hj => (g2 j hj).trans (h2 j hj)⟩
  · rintro _ ⟨p1, r, t, rfl, h1, h2⟩
    exact zi_t (by decide) (zwi ⟨rfl, h1, h2⟩)
  · rintro ⟨y9, y11, y12, y13⟩ ⟨e1, e2, e3⟩
    dsimp only at e1 e2 e3 ⊢
    rw [show (79 : Int32) + nI f = nI (70 + 9 + f) by rw [show (79 : Int32) = nI 79 from rfl, nI_add], zbnd_nI (by omega) (by decide), nI_clamp (by omega), e2.2.2.1 f hf, e1]
    exact zwi ⟨rfl, e3⟩
