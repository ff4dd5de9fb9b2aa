/-! SPREAD -/
theorem anyB_s {p : Nat → Bool} {n : Nat} : anyB p (n + 1) = (anyB p n || p n) := rfl
/-- a cell's bit put into a set of cells -/
theorem bit_put {S c : Nat} {q : Nat → Bool} (hS : S < 2 ^ 36) (hc : c < 36) (h : ∀ j, j < 36 → S.testBit j = q j) : lN S ||| ((1 : Int64) <<< ((nI c).toInt64 &&& 63)) = lN (S ||| 2 ^ c) ∧ S ||| 2 ^ c < 2 ^ 36 ∧ ∀ j, j < 36 → (S ||| 2 ^ c).testBit j = (q j || (nI c == nI j)) := by
  refine ⟨?_, Nat.or_lt_two_pow hS (Nat.pow_lt_pow_right (by decide) hc), fun j hj => ?_⟩
  · rw [show (1 : Int64) = lN 1 from rfl, wb_shl 1 (by omega), Nat.one_mul, fb_orL]
  · rw [Nat.testBit_or, h j hj, Nat.testBit_two_pow]
    congr 1
    by_cases e : c = j
    · subst e; rw [decide_eq_true rfl, beq_self_eq_true]
    · rw [decide_eq_false e]; exact (beq_false_of_ne (nI_ne (by omega) (by omega) e)).symm
theorem c_spread {P : Pl} (hP : plOk P) {hr pn wl : Nat} {ncell nsore nheld nlead fcell fsore fheld flead vals gst hst : Nat → Int32} {ffig fhr fpn : Int32} {fwl : Int64} {rows : Nat → Int32} (hN : NowR P hr pn wl ncell nsore nheld nlead rows) {a1 a2 : Int32} : zwp (f_X11_spread a1 a2 fcell ffig fheld fhr flead fpn fsore fwl vals ncell (nI (qF P)) nheld (nI hr) nlead (nI pn) nsore (lN wl) (qDb P) (nI (qF P)) (qGc P) (nI (qGn P)) gst (nI (qH P)) (qHc P) (nI (qHn P)) hst (qLt P) (nI (qNl P)) (qSt P) (qWy P) (nI (qW P))) (fun r => r.1 = toC (cond (okN (qF P) a1) (cond (inR 0 100 a2) (.inl (nI (fb_ct (fun j => anyB (fun k => (sRun P wl (fun _ => 0) hr (tCp ncell nsore nheld fcell fsore fheld) k).1 a1.toNatClampNeg == nI j) (a2.toNatClampNeg + 1)) 36))) (.inr true)) (.inr false))) := by
  have hF := hP.2.2.2.2.1
  have hWH := hP.wh
  unfold f_X11_spread
  refine zi_beq (c_checkFigure (F := qF P) (by omega)) ?_
  cases hc0 : okN (qF P) a1 with
  | false => exact zwi rfl
  | true =>
    refine zi_beq (c_checkHours (lo := 0) (hi := 100) (by decide) (by decide)) ?_
    cases hc1 : inR 0 100 a2 with
    | false => exact zwi rfl
    | true =>
      obtain ⟨na1, ha1, rfl⟩ := okN_t hc0
      obtain ⟨na2, la2, ha2, rfl⟩ := inR_t hc1
      rw [nI_clamp (show na1 < 2 ^ 31 by omega), nI_clamp (show na2 < 2 ^ 31 by omega)]
      refine zi_bind (zwp_mono (c_foresee hP (n := 0) (by omega) (by have := hN.2.2.1; omega) hN.2.2.2.2.2.2.2.2 (hN.wl63 hP) hN.tk) ?_)
      rintro ⟨o3, o4, o5, o6, o7, o8, o9, o10, o11, o12, o13⟩ ⟨e1, e2, e3, e4, e5, e6, e7⟩
      dsimp only at e1 e2 e3 e4 e5 e6 e7
      subst e1 e2 e3 e4 e6 e7
      have hok : ∀ k, ∃ c, (sRun P wl (fun _ => 0) hr (tCp ncell nsore nheld fcell fsore fheld) k).1 na1 = nI c ∧ c < 36 := fun k => by
        obtain ⟨c, h1, h2⟩ := (sRun_ok hP (tCp_ok hP hN.tk) k).1 na1 ha1
        exact ⟨c, h1, by omega⟩
      dsimp only
      rw [zbnd_nI (by omega) (by decide)]
      refine zl_bind (P := fun k a => ∃ S v g h, a = (lN S, nI (k + 1), (sRun P wl (fun _ => 0) hr (tCp ncell nsore nheld fcell fsore fheld) k).1, (sRun P wl (fun _ => 0) hr (tCp ncell nsore nheld fcell fsore fheld) k).2.2, nI (hr + k), (sRun P wl (fun _ => 0) hr (tCp ncell nsore nheld fcell fsore fheld) k).2.1, v, g, h) ∧ S < 2 ^ 36 ∧ ∀ j, j < 36 → S.testBit j = (fun j => anyB (fun i => (sRun P wl (fun _ => 0) hr (tCp ncell nsore nheld fcell fsore fheld) i).1 na1 == nI j) (k + 1)) j) (Post := fun b => ∃ S v g h, b = (lN S, (sRun P wl (fun _ => 0) hr (tCp ncell nsore nheld fcell fsore fheld) na2).1, (sRun P wl (fun _ => 0) hr (tCp ncell nsore nheld fcell fsore fheld) na2).2.2, nI (hr + na2), (sRun P wl (fun _ => 0) hr (tCp ncell nsore nheld fcell fsore fheld) na2).2.1, v, g, h) ∧ S < 2 ^ 36 ∧ ∀ j, j < 36 → S.testBit j = (fun j => anyB (fun i => (sRun P wl (fun _ => 0) hr (tCp ncell nsore nheld fcell fsore fheld) i).1 na1 == nI j) (na2 + 1)) j) na2 (by omega) ?_ ?_ ?_ ?_
      · obtain ⟨c, h1, h2⟩ := hok 0
        have hp := bit_put (S := 0) (c := c) (q := fun _ => false) (by decide) h2 (fun j _ => Nat.zero_testBit j)
        refine ⟨0 ||| 2 ^ c, o11, o12, o13, ?_, hp.2.1, fun j hj => ?_⟩
        · rw [h1, ← hp.1, show lN 0 ||| ((1 : Int64) <<< ((nI c).toInt64 &&& 63)) = (1 : Int64) <<< ((nI c).toInt64 &&& 63) from Int64.zero_or]
          rfl
        · rw [hp.2.2 j hj, ← h1]; rfl
      · rintro k hk _ ⟨S, v, g, h, rfl, hS, hb⟩
        refine zi_f (nI_nlt (by omega) (by omega)) ?_
        refine zi_bind (zwp_mono (c_futK hP (ld := fun _ => 0) (by have := hN.2.2.1; omega) (fun f hf => ⟨e5 f hf, by omega⟩) (hN.wl63 hP) (tCp_ok hP hN.tk)) ?_)
        rintro ⟨q1, q2, q3, q4, q5, q6, q7⟩ ⟨g1, g2, g3, g4⟩
        dsimp only at g1 g2 g3 g4
        subst g1 g2 g3 g4
        obtain ⟨c, h1, h2⟩ := hok (k + 1)
        have hp := bit_put hS h2 hb
        rw [zbnd_nI (by omega) (by decide), h1, hp.1]
        exact zwi ⟨_, _, _, _, by rw [nI_1], hp.2.1, fun j hj => by rw [hp.2.2 j hj, ← h1]; rfl⟩
      · rintro _ ⟨S, v, g, h, rfl, hS, hb⟩
        exact zi_t (nI_lt (by omega) (by omega)) (zwi ⟨S, v, g, h, rfl, hS, hb⟩)
      · rintro _ ⟨S, v, g, h, rfl, hS, hb⟩
        refine zi_beq (l_bits36 hS) (zwi ?_)
        rw [fb_ct_cong (fun j hj => hb j hj)]
        rfl
theorem m_spread {P : Pl} (hP : plOk P) {hr pn wl : Nat} {ncell nsore nheld nlead fcell fsore fheld : Nat → Int32} {mwl mways mlight mcode rows mtold mpile : Nat → Int32} {mga mha mthr : Int32} (hm : mPl P mwl mways mlight mcode mga mha) (hN : NowR P hr pn wl ncell nsore nheld nlead rows) {moften : Nat → Int32} {a1 a2 : Int32} : zwp (f_X12_spread a1 a2 mcode (qDb P) (-1 : Int32) (nI (qF P)) mga mha mlight (nI (qNl P)) moften mpile rows (nI (qH P)) mthr mtold mwl mways (nI (qW P))) (fun r => r.1 = toV (cond (okN (qF P) a1) (cond (inR 0 100 a2) (.inl (nI (fb_ct (fun j => anyB (fun k => (sRun P wl (fun _ => 0) hr (tCp ncell nsore nheld fcell fsore fheld) k).1 a1.toNatClampNeg == nI j) (a2.toNatClampNeg + 1)) 36))) (.inr true)) (.inr false)) ∧ r.2.2.2.2.1 = toT (cond (okN (qF P) a1) (cond (inR 0 100 a2) (.inl (nI (fb_ct (fun j => anyB (fun k => (sRun P wl (fun _ => 0) hr (tCp ncell nsore nheld fcell fsore fheld) k).1 a1.toNatClampNeg == nI j) (a2.toNatClampNeg + 1)) 36))) (.inr true)) (.inr false)) ∧ ∀ k, k < 70 → r.2.2.2.1 k = rows k) := by
  have hF := hP.2.2.2.2.1
  have hWH := hP.wh
  unfold f_X12_spread
  refine zi_beq (m_isFigure (F := qF P) (by omega)) ?_
  cases hc0 : okN (qF P) a1 with
  | false => exact zi_t rfl (zwi ⟨rfl, rfl, fun _ _ => rfl⟩)
  | true =>
    refine zi_f (by decide) ?_
    refine zi_beq (m_isSoon (lo := 0) (w := 2) (by decide) (by decide)) ?_
    cases hc1 : inR 0 100 a2 with
    | false => exact zi_t rfl (zwi ⟨rfl, rfl, fun _ _ => rfl⟩)
    | true =>
      refine zi_f (by decide) ?_
      obtain ⟨na1, ha1, rfl⟩ := okN_t hc0
      obtain ⟨na2, la2, ha2, rfl⟩ := inR_t hc1
      rw [nI_clamp (show na1 < 2 ^ 31 by omega), nI_clamp (show na2 < 2 ^ 31 by omega)]
      have hok : ∀ k, ∃ c, (sRun P wl (fun _ => 0) hr (tCp ncell nsore nheld fcell fsore fheld) k).1 na1 = nI c ∧ c < 36 := fun k => by
        obtain ⟨c, h1, h2⟩ := (sRun_ok hP (tCp_ok hP hN.tk) k).1 na1 ha1
        exact ⟨c, h1, by omega⟩
      refine zi_bind (zwp_mono m_clears ?_)
      intro o5 h5
      refine zi_bind (zwp_mono m_tries ?_)
      intro r0 ⟨t1, t2⟩
      have hR0 := rRow_tcp hP (fcell := fcell) (fsore := fsore) (fheld := fheld) hN.1 t2
      refine zl_bind (P := fun k a => ∃ of p r t, a = (nI k, of, p, r, t) ∧ (∀ j, j < 36 → of j = b2 ((fun j => anyB (fun i => (sRun P wl (fun _ => 0) hr (tCp ncell nsore nheld fcell fsore fheld) i).1 na1 == nI j) k) j)) ∧ rRow (qF P) 70 r (hr + k) (sRun P wl (fun _ => 0) hr (tCp ncell nsore nheld fcell fsore fheld) k).1 (sRun P wl (fun _ => 0) hr (tCp ncell nsore nheld fcell fsore fheld) k).2.1 (sRun P wl (fun _ => 0) hr (tCp ncell nsore nheld fcell fsore fheld) k).2.2 (fun _ => 0) wl ∧ ∀ j, j < 70 → r j = rows j) (Post := fun b => ∃ of p r t, b = (of, p, r, t) ∧ (∀ j, j < 36 → of j = b2 ((fun j => anyB (fun i => (sRun P wl (fun _ => 0) hr (tCp ncell nsore nheld fcell fsore fheld) i).1 na1 == nI j) (na2 + 1)) j)) ∧ ∀ j, j < 70 → r j = rows j) (na2 + 1) (by omega) ⟨o5, mpile, r0, mtold, rfl, fun j hj => h5 j hj, hR0, fun j hj => t1 j hj⟩ ?_ ?_ ?_
      · rintro k hk _ ⟨of, p1, r, t, rfl, ho, h1, h2⟩
        refine zi_f (nI_nlt (by omega) (by omega)) ?_
        dsimp only
        obtain ⟨c, c1, c2⟩ := hok k
        rw [ix71, zbnd_nI (by omega) (by decide), nI_clamp (show 70 + 1 + na1 < 2 ^ 31 by omega), h1.2.1 na1 ha1, c1, zbnd_nI (by omega) (by decide), nI_clamp (show c < 2 ^ 31 by omega)]
        refine zi_bind (zwp_mono (m_hourK hP hm h1 (by have := hN.2.2.1; omega) (fun f _ => by omega) (tCp_ok hP hN.tk)) ?_)
        rintro ⟨q1, q2, q3⟩ ⟨g1, g2⟩
        dsimp only at g1 g2
        refine zwi ⟨_, _, _, _, by rw [nI_1], fun j hj => ?_, g1, fun j hj => (g2 j hj).trans (h2 j hj)⟩
        show upd of c 1 j = b2 (anyB (fun i => (sRun P wl (fun _ => 0) hr (tCp ncell nsore nheld fcell fsore fheld) i).1 na1 == nI j) k || ((sRun P wl (fun _ => 0) hr (tCp ncell nsore nheld fcell fsore fheld) k).1 na1 == nI j))
        rw [c1]
        by_cases q : j = c
        · subst q; rw [pk_us, beq_self_eq_true, Bool.or_true]; rfl
        · rw [pk_un q, ho j hj, show (nI c == nI j) = false from beq_false_of_ne (nI_ne (by omega) (by omega) (fun e => q e.symm)), Bool.or_false]
      · rintro _ ⟨of, p1, r, t, rfl, ho, h1, h2⟩
        exact zi_t (nI_lt (by omega) (by omega)) (zwi ⟨of, p1, r, t, rfl, ho, h2⟩)
      · rintro _ ⟨of, p1, r, t, rfl, ho, h2⟩
        dsimp only
        refine zl_bind (P := fun k a => a = (sSum of k, nI k)) (Post := fun b => b = sSum of 36) 36 (by decide) rfl ?_ ?_ ?_
        · rintro k hk _ rfl
          refine zi_f (by rw [show (36 : Int32) = nI 36 from rfl]; exact nI_ge hk (by decide)) ?_
          rw [zbnd_nI (by omega) (by decide), nI_clamp (by omega), nI_1]
          exact zwi rfl
        · rintro _ rfl
          exact zi_t (show (36 : Int32) ≤ nI 36 by decide) (zwi rfl)
        · intro b e
          refine zwi ⟨?_, rfl, h2⟩
          show b = _
          rw [e, sSum_cg (fun k hk => ho k hk), sSum_ct]
          rfl
