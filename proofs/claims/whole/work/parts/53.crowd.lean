/-! CROWD: the most -/
def mx (v : Nat → Int32) : Nat → Int32 × Int32
  | 0 => (0, -1)
  | k + 1 => if v k ≤ (mx v k).1 then mx v k else (v k, nI k)
theorem mx_t {v : Nat → Int32} {k : Nat} (h : v k ≤ (mx v k).1) : mx v (k + 1) = mx v k := if_pos h
theorem mx_f {v : Nat → Int32} {k : Nat} (h : ¬ v k ≤ (mx v k).1) : mx v (k + 1) = (v k, nI k) := if_neg h
theorem mx_cg {v w : Nat → Int32} : ∀ {n : Nat}, (∀ k, k < n → v k = w k) → mx v n = mx w n
  | 0, _ => rfl
  | n + 1, h => by unfold mx; rw [mx_cg (fun k hk => h k (by omega)), h n (by omega)]
theorem mx_pos {v : Nat → Int32} : ∀ n, (0 : Int32) ≤ (mx v n).1
  | 0 => show (0 : Int32) ≤ 0 by decide
  | n + 1 => by
    by_cases h : v n ≤ (mx v n).1
    · rw [mx_t h]; exact mx_pos n
    · rw [mx_f h]; exact Int32.le_of_lt (Int32.lt_of_le_of_lt (mx_pos n) (Int32.not_le.mp h))
theorem mx_zero {v : Nat → Int32} {m : Nat} : ∀ d, (∀ k, m ≤ k → k < m + d → v k = 0) → mx v (m + d) = mx v m
  | 0, _ => rfl
  | d + 1, h => by
    rw [show m + (d + 1) = (m + d) + 1 by omega, mx_t (by rw [h (m + d) (by omega) (by omega)]; exact mx_pos _)]
    exact mx_zero d (fun k h1 h2 => h k h1 (by omega))
theorem mx_val {v : Nat → Int32} : ∀ n, ((mx v n).2 = -1 ∧ (mx v n).1 = 0) ∨ ∃ j, j < n ∧ (mx v n).2 = nI j ∧ (mx v n).1 = v j
  | 0 => .inl ⟨rfl, rfl⟩
  | n + 1 => by
    by_cases h : v n ≤ (mx v n).1
    · rw [mx_t h]
      rcases mx_val (v := v) n with q | ⟨j, h1, h2, h3⟩
      · exact .inl q
      · exact .inr ⟨j, by omega, h2, h3⟩
    · rw [mx_f h]; exact .inr ⟨n, by omega, rfl, rfl⟩
theorem nI_nm1 {n : Nat} (h : n < 64) : ¬ nI n = -1 := fun e => by
  have := (enc_none (o := some n) (fun c q => by injection q with q; omega)).mp e
  cases this
theorem m_mostOften {often : Nat → Int32} : zwp (f_X12_mostOften often) (fun r => r = (mx often 36).2) := by
  unfold f_X12_mostOften
  refine zl_bind (P := fun k a => a = ((mx often k).2, nI k)) (Post := fun b => b = (mx often 36).2) 36 (by decide) rfl ?_ ?_ ?_
  · rintro k hk _ rfl
    refine zi_f (by rw [show (36 : Int32) = nI 36 from rfl]; exact nI_ge hk (by decide)) ?_
    rw [zbnd_nI (by omega) (by decide), nI_clamp (show k < 2 ^ 31 by omega)]
    refine zi_bind (zwp_mono (Q := fun v => v = (mx often k).1) ?_ ?_)
    · rcases mx_val (v := often) k with ⟨q1, q2⟩ | ⟨j, h1, h2, h3⟩
      · rw [q1, q2]; exact zi_t rfl (zwi rfl)
      · rw [h2, h3]
        refine zi_f (nI_nm1 (by omega)) ?_
        rw [zbnd_nI (by omega) (by decide), nI_clamp (by omega)]
        exact zwi rfl
    · intro v e
      subst e
      refine zi_c (fun q => ?_) (fun q => ?_)
      · exact zwi (by rw [mx_t q, nI_1]; rfl)
      · exact zwi (by rw [mx_f q, nI_1]; rfl)
  · rintro _ rfl
    exact zi_t (show (36 : Int32) ≤ nI 36 by decide) (zwi rfl)
  · intro b e; exact zwi e
theorem m_clears {often : Nat → Int32} : zwp (f_X12_clears often) (fun r => ∀ j, j < 36 → r j = 0) := by
  unfold f_X12_clears
  refine zl_bind (P := fun k a => ∃ r, a = (nI k, r) ∧ ∀ j, j < k → r j = 0) (Post := fun r => ∀ j, j < 36 → r j = 0) 36 (by decide) ⟨_, rfl, fun j hj => by omega⟩ ?_ ?_ ?_
  · rintro k hk _ ⟨r, rfl, h⟩
    refine zi_f (by rw [show (36 : Int32) = nI 36 from rfl]; exact nI_ge hk (by decide)) ?_
    rw [zbnd_nI (by omega) (by decide), nI_clamp (by omega), nI_1]
    refine zwi ⟨_, rfl, fun j hj => ?_⟩
    by_cases q : j = k
    · subst q; rw [pk_us]
    · rw [pk_un q]; exact h j (by omega)
  · rintro _ ⟨r, rfl, h⟩
    exact zi_t (show (36 : Int32) ≤ nI 36 by decide) (zwi h)
  · intro r h; exact zwi h
def cnt (F : Nat) (cell : Nat → Int32) (j : Nat) : Nat := fb_ct (fun f => cell f == nI j) F
theorem cnt_add {cell often r : Nat → Int32} {k c : Nat} (hk : cell k = nI c) (hc : c < 36) (h : ∀ j, j < 36 → r j = often j + nI (cnt k cell j)) : ∀ j, j < 36 → upd r c (r c + 1) j = often j + nI (cnt (k + 1) cell j) := by
  intro j hj
  unfold cnt
  rw [fb_ct_succ, hk]
  by_cases q : j = c
  · subst q
    rw [pk_us, h j hj, show (nI j == nI j) = true from beq_self_eq_true _, if_pos rfl, ← nI_1, Int32.add_assoc]; rfl
  · rw [pk_un q, h j hj, show (nI c == nI j) = false from beq_false_of_ne (nI_ne (by omega) (by omega) (fun e => q e.symm)), if_neg (by decide)]; rfl
theorem m_marks {F : Nat} {rows cell often : Nat → Int32} (hF : F ≤ 8) (hr : ∀ f, f < F → rows (70 + 1 + f) = cell f) (hc : ∀ f, f < F → ∃ c, cell f = nI c ∧ c < 36) : zwp (f_X12_marks (nI F) often rows) (fun r => ∀ j, j < 36 → r j = often j + nI (cnt F cell j)) := by
  unfold f_X12_marks
  refine zl_bind (P := fun k a => ∃ r, a = (nI k, r) ∧ ∀ j, j < 36 → r j = often j + nI (cnt k cell j)) (Post := fun r => ∀ j, j < 36 → r j = often j + nI (cnt F cell j)) F (by omega) ⟨_, rfl, fun j hj => by show _ = often j + nI 0; rw [show nI 0 = (0 : Int32) from rfl, Int32.add_zero]⟩ ?_ ?_ ?_
  · rintro k hk _ ⟨r, rfl, h⟩
    refine zi_f (nI_ge hk (by omega)) ?_
    obtain ⟨c, hc1, hc2⟩ := hc k hk
    rw [ix71, zbnd_nI (by omega) (by decide), nI_clamp (show 70 + 1 + k < 2 ^ 31 by omega), hr k hk, hc1, zbnd_nI (by omega) (by decide), zbnd_nI (by omega) (by decide), nI_clamp (show c < 2 ^ 31 by omega), nI_1]
    exact zwi ⟨_, rfl, cnt_add hc1 hc2 h⟩
  · rintro _ ⟨r, rfl, h⟩
    exact zi_t (nI_le (Nat.le_refl _) (by omega)) (zwi h)
  · intro r h; exact zwi h
theorem cnt_out {P : Pl} {cell : Nat → Int32} {j : Nat} (hWH : qW P * qH P ≤ 36) (hc : clOk P cell) (hj : qW P * qH P ≤ j) (hj2 : j < 2 ^ 31) : cnt (qF P) cell j = 0 := fb_ct_zero.mpr (fun k hk => by
  obtain ⟨c, h1, h2⟩ := hc k hk
  rw [h1]
  exact beq_false_of_ne (nI_ne (by omega) hj2 (by omega)))
theorem c_crowd {P : Pl} (hP : plOk P) {hr pn wl : Nat} {ncell nsore nheld nlead fcell fsore fheld flead vals gst hst : Nat → Int32} {ffig fhr fpn : Int32} {fwl : Int64} {rows : Nat → Int32} (hN : NowR P hr pn wl ncell nsore nheld nlead rows) {a1 a2 : Int32} : zwp (f_X11_crowd a1 a2 fcell ffig fheld fhr flead fpn fsore fwl vals ncell (nI (qF P)) nheld (nI hr) nlead (nI pn) nsore (lN wl) (qDb P) (nI (qF P)) (qGc P) (nI (qGn P)) gst (nI (qH P)) (qHc P) (nI (qHn P)) hst (qLt P) (nI (qNl P)) (qSt P) (qWy P) (nI (qW P))) (fun r => r.1 = toC (cond (okN (1 + 1) a2) (cond (inR 0 100 a1) (.inl (if a2 = 0 then (mx (fun j => nI (cnt (qF P) (sRun P wl (fun _ => 0) hr (tCp ncell nsore nheld fcell fsore fheld) a1.toNatClampNeg).1 j)) 36).1 else (mx (fun j => nI (cnt (qF P) (sRun P wl (fun _ => 0) hr (tCp ncell nsore nheld fcell fsore fheld) a1.toNatClampNeg).1 j)) 36).2)) (.inr true)) (.inr false))) := by
  have hF := hP.2.2.2.2.1
  have hWH := hP.wh
  unfold f_X11_crowd
  refine zi_beq (c_checkWhat (n := 1) (by decide)) ?_
  cases hc0 : okN (1 + 1) a2 with
  | false => exact zwi rfl
  | true =>
    refine zi_beq (c_checkHours (lo := 0) (hi := 100) (by decide) (by decide)) ?_
    cases hc1 : inR 0 100 a1 with
    | false => exact zwi rfl
    | true =>
      obtain ⟨na2, ha2, rfl⟩ := okN_t hc0
      obtain ⟨na1, la1, ha1, rfl⟩ := inR_t hc1
      rw [nI_clamp (show na1 < 2 ^ 31 by omega)]
      refine zi_bind (zwp_mono (c_foresee hP (n := na1) (by omega) (by have := hN.2.2.1; omega) hN.2.2.2.2.2.2.2.2 (hN.wl63 hP) hN.tk) ?_)
      rintro ⟨o3, o4, o5, o6, o7, o8, o9, o10, o11, o12, o13⟩ ⟨e1, e2, e3, e4, e5, e6, e7⟩
      dsimp only at e1 e2 e3 e4 e5 e6 e7
      subst e1 e2 e3 e4 e6 e7
      have hok : clOk P (sRun P wl (fun _ => 0) hr (tCp ncell nsore nheld fcell fsore fheld) na1).1 := (sRun_ok hP (tCp_ok hP hN.tk) na1).1
      revert hok
      generalize (sRun P wl (fun _ => 0) hr (tCp ncell nsore nheld fcell fsore fheld) na1).1 = cl
      intro hok
      have hmx : mx (fun j => nI (cnt (qF P) cl j)) 36 = mx (fun j => nI (cnt (qF P) cl j)) (qW P * qH P) := by
        have := mx_zero (v := fun j => nI (cnt (qF P) cl j)) (m := qW P * qH P) (36 - qW P * qH P) (fun k h1 h2 => by rw [cnt_out hWH hok h1 (by omega)]; rfl)
        rw [show qW P * qH P + (36 - qW P * qH P) = 36 by omega] at this
        exact this
      rw [hmx]
      refine zl_bind (P := fun k a => a = ((mx (fun j => nI (cnt (qF P) cl j)) k).1, (mx (fun j => nI (cnt (qF P) cl j)) k).2, nI k)) (Post := fun b => b = mx (fun j => nI (cnt (qF P) cl j)) (qW P * qH P)) (qW P * qH P) (by omega) rfl ?_ ?_ ?_
      · rintro k hk _ rfl
        dsimp only
        unfold f_X3_cells
        refine zi_beq rfl ?_
        rw [pk_mul]
        refine zi_f (nI_ge hk (by omega)) ?_
        refine zi_beq (c_figuresAt hF) ?_
        refine zi_beq (j_bits _ (Nat.lt_of_lt_of_le (bts_lt _ _) (Nat.pow_le_pow_right (by decide) hF : 2 ^ qF P ≤ 2 ^ 8))) ?_
        rw [bts_ct hF]
        refine zi_c (fun q => ?_) (fun q => ?_)
        · exact zwi (by rw [mx_t (v := fun j => nI (cnt (qF P) cl j)) q, nI_1]; rfl)
        · exact zwi (by rw [mx_f (v := fun j => nI (cnt (qF P) cl j)) q, nI_1]; rfl)
      · rintro _ rfl
        dsimp only
        unfold f_X3_cells
        refine zi_beq rfl ?_
        rw [pk_mul]
        exact zi_t (nI_le (Nat.le_refl _) (by omega)) (zwi rfl)
      · rintro _ rfl
        exact zi_c (fun q => zwi (by rw [if_pos q]; rfl)) (fun q => zwi (by rw [if_neg q]; rfl))
theorem m_crowd {P : Pl} (hP : plOk P) {hr pn wl : Nat} {ncell nsore nheld nlead fcell fsore fheld : Nat → Int32} {mwl mways mlight mcode rows mtold mpile : Nat → Int32} {mga mha mthr : Int32} (hm : mPl P mwl mways mlight mcode mga mha) (hN : NowR P hr pn wl ncell nsore nheld nlead rows) {moften : Nat → Int32} {a1 a2 : Int32} : zwp (f_X12_crowd a1 a2 mcode (qDb P) (-1 : Int32) (nI (qF P)) mga mha mlight (nI (qNl P)) moften mpile rows (nI (qH P)) mthr mtold mwl mways (nI (qW P))) (fun r => r.1 = toV (cond (okN (1 + 1) a2) (cond (inR 0 100 a1) (.inl (if a2 = 0 then (mx (fun j => nI (cnt (qF P) (sRun P wl (fun _ => 0) hr (tCp ncell nsore nheld fcell fsore fheld) a1.toNatClampNeg).1 j)) 36).1 else (mx (fun j => nI (cnt (qF P) (sRun P wl (fun _ => 0) hr (tCp ncell nsore nheld fcell fsore fheld) a1.toNatClampNeg).1 j)) 36).2)) (.inr true)) (.inr false)) ∧ r.2.2.2.2.1 = toT (cond (okN (1 + 1) a2) (cond (inR 0 100 a1) (.inl (if a2 = 0 then (mx (fun j => nI (cnt (qF P) (sRun P wl (fun _ => 0) hr (tCp ncell nsore nheld fcell fsore fheld) a1.toNatClampNeg).1 j)) 36).1 else (mx (fun j => nI (cnt (qF P) (sRun P wl (fun _ => 0) hr (tCp ncell nsore nheld fcell fsore fheld) a1.toNatClampNeg).1 j)) 36).2)) (.inr true)) (.inr false)) ∧ ∀ k, k < 70 → r.2.2.2.1 k = rows k) := by
  have hF := hP.2.2.2.2.1
  have hWH := hP.wh
  unfold f_X12_crowd
  refine zi_beq (m_isWhat (n := 1) (by decide)) ?_
  cases hc0 : okN (1 + 1) a2 with
  | false => exact zi_t rfl (zwi ⟨rfl, rfl, fun _ _ => rfl⟩)
  | true =>
    refine zi_f (by decide) ?_
    refine zi_beq (m_isSoon (lo := 0) (w := 2) (by decide) (by decide)) ?_
    cases hc1 : inR 0 100 a1 with
    | false => exact zi_t rfl (zwi ⟨rfl, rfl, fun _ _ => rfl⟩)
    | true =>
      refine zi_f (by decide) ?_
      obtain ⟨na2, ha2, rfl⟩ := okN_t hc0
      obtain ⟨na1, la1, ha1, rfl⟩ := inR_t hc1
      rw [nI_clamp (show na1 < 2 ^ 31 by omega)]
      unfold f_X12_goesTo
      refine zi_bind (zi_bind (zwp_mono m_tries ?_))
      intro r0 ⟨t1, t2⟩
      have hR0 := rRow_tcp hP (fcell := fcell) (fsore := fsore) (fheld := fheld) hN.1 t2
      refine zi_bind (zwp_mono (m_hoursGo hP hm hR0 (by omega) (by have := hN.2.2.1; omega) (fun f _ => by omega) (tCp_ok hP hN.tk)) ?_)
      rintro ⟨q1, q2, q3⟩ ⟨g1, g2⟩
      dsimp only at g1 g2
      refine zwi ?_
      have hok : clOk P (sRun P wl (fun _ => 0) hr (tCp ncell nsore nheld fcell fsore fheld) na1).1 := (sRun_ok hP (tCp_ok hP hN.tk) na1).1
      have g11 := g1.2.1
      revert hok g11
      generalize (sRun P wl (fun _ => 0) hr (tCp ncell nsore nheld fcell fsore fheld) na1).1 = cl
      intro hok g11
      refine zi_bind (zwp_mono m_clears ?_)
      intro o8 h8
      refine zi_bind (zwp_mono (m_marks hF g11 (fun f hf => by obtain ⟨c, h1, h2⟩ := hok f hf; exact ⟨c, h1, by omega⟩)) ?_)
      intro o9 h9
      refine zi_bind (zwp_mono m_mostOften ?_)
      intro r10 e
      have h9' : ∀ j, j < 36 → o9 j = nI (cnt (qF P) cl j) := fun j hj => by rw [h9 j hj, h8 j hj, Int32.zero_add]
      rw [mx_cg h9'] at e
      have fr : ∀ k, k < 70 → q2 k = rows k := fun k hk => (g2 k hk).trans (t1 k hk)
      refine zi_c (fun q => ?_) (fun q => ?_)
      · exact zwi ⟨by rw [if_neg (show ¬ nI na2 = 0 by rw [q]; decide)]; exact e, rfl, fr⟩
      · have hz : nI na2 = 0 := by
          have : na2 = 0 := by
            have h1 : ¬ na2 = 1 := fun e => q (by rw [e]; rfl)
            omega
          rw [this]; rfl
        rw [if_pos hz]
        rcases mx_val (v := fun j => nI (cnt (qF P) cl j)) 36 with ⟨m1, m2⟩ | ⟨j, m1, m2, m3⟩
        · rw [m2]
          exact zi_t (e.trans m1) (zwi ⟨rfl, rfl, fr⟩)
        · rw [m3]
          rw [m2] at e
          subst e
          refine zi_f (nI_nm1 (by omega)) ?_
          rw [zbnd_nI (by omega) (by decide), nI_clamp (by omega)]
          exact zwi ⟨h9' j m1, rfl, fr⟩
