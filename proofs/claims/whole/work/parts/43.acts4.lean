/-! HOURS, UNDO -/
theorem smallI {x : Int32} {n : Nat} (h1 : 0 ≤ x.toInt) (h2 : x.toInt ≤ n) : ∃ k, k ≤ n ∧ x = nI k := by
  have hr := fb_rng x
  refine ⟨x.toInt.toNat, by omega, ?_⟩
  rw [fa_eq, nI_toInt (by omega)]
  omega
theorem sHurt_ok {P : Pl} {hr ld f : Nat} {cell sore held : Nat → Int32} : ∃ h, h ≤ 9 ∧ sHurt P hr ld cell sore held f = nI h := by
  unfold sHurt
  by_cases h : qHn P = 0
  · rw [if_pos h]; exact ⟨1, by omega, rfl⟩
  · rw [if_neg h]
    generalize rVal (sVals P hr ld cell sore held f) (qHc P) (qHn P) = v
    have e0 : ((0 : Int32)).toInt = 0 := by decide
    have e9 : ((9 : Int32)).toInt = 9 := by decide
    by_cases h1 : v < 9
    · rw [if_pos h1]
      by_cases h2 : (0 : Int32) < v
      · rw [if_pos h2]; rw [fa_lt] at h1 h2; exact smallI (by omega) (by omega)
      · rw [if_neg h2]; exact ⟨0, by omega, rfl⟩
    · rw [if_neg h1]; exact ⟨9, by omega, rfl⟩
def t9 (P : Pl) (t : Tn) : Prop := clOk P t.1 ∧ (∀ f, f < qF P → ∃ h, t.2.2 f = nI h ∧ h ≤ 9) ∧ (∀ f, f < qF P → ∃ s, t.2.1 f = nI s ∧ s ≤ 99)
theorem sFigs_99 {P : Pl} {wl hr : Nat} {ld : Nat → Nat} {dl : Bool} {held : Nat → Int32} {s : (Nat → Int32) × (Nat → Int32)} (h : ∀ f, f < qF P → ∃ x, s.2 f = nI x ∧ x ≤ 99) : ∀ k, k ≤ qF P → ∀ f, f < qF P → ∃ x, (sFigs P wl hr ld dl held s k).2 f = nI x ∧ x ≤ 99
  | 0, _ => h
  | k + 1, hk => by
    have ih := sFigs_99 (wl := wl) (hr := hr) (ld := ld) (dl := dl) (held := held) h k (by omega)
    intro f hf
    unfold sFigs sFig
    by_cases hq : held k ≤ 0 ∨ dl = true
    · rw [if_pos hq]
      split
      · exact ih f hf
      · exact ih f hf
    · rw [if_neg hq]
      obtain ⟨x, hx1, hx2⟩ := ih k (by omega)
      obtain ⟨y, hy1, hy2⟩ := sHurt_ok (P := P) (hr := hr) (ld := ld k) (cell := (sFigs P wl hr ld dl held s k).1) (sore := (sFigs P wl hr ld dl held s k).2) (held := held) (f := k)
      show ∃ z, upd (sFigs P wl hr ld dl held s k).2 k _ f = nI z ∧ _
      by_cases he : f = k
      · subst he
        rw [pk_us, hx1, hy2, nI_add, show (99 : Int32) = nI 99 from rfl]
        by_cases hl : x + y < 99
        · rw [if_pos (nI_lt hl (by decide))]; exact ⟨_, rfl, by omega⟩
        · rw [if_neg (nI_nlt (by omega) (by omega))]; exact ⟨99, rfl, by omega⟩
      · rw [pk_un he]; exact ih f hf
theorem sHr_9 {P : Pl} (hP : plOk P) {wl : Nat} {ld : Nat → Nat} {hr : Nat} {dl : Bool} {t : Tn} (h : t9 P t) : t9 P (sHr P wl ld hr dl t) := by
  refine ⟨sFigs_ok hP h.1 _ (Nat.le_refl _), fun f hf => ?_, sFigs_99 (s := (t.1, t.2.1)) h.2.2 _ (Nat.le_refl _)⟩
  obtain ⟨x, hx, hx2⟩ := h.2.1 f hf
  show ∃ h, sDec t.2.2 (qF P) f = nI h ∧ h ≤ 9
  unfold sDec
  rw [if_pos hf, hx]
  by_cases h0 : x = 0
  · subst h0; exact ⟨0, rfl, by omega⟩
  · rw [nI_m1 _ (by omega)]
    by_cases h1 : (0 : Int32) < nI (x - 1)
    · rw [if_pos h1]; exact ⟨x - 1, rfl, by omega⟩
    · rw [if_neg h1]; exact ⟨0, rfl, by omega⟩
theorem sRun_9 {P : Pl} (hP : plOk P) {wl : Nat} {ld : Nat → Nat} {hr : Nat} {t : Tn} (h : t9 P t) : ∀ k, t9 P (sRun P wl ld hr t k)
  | 0 => h
  | k + 1 => sHr_9 hP (sRun_9 hP h k)
theorem NowR.t9 {P : Pl} {hr pn wl : Nat} {ncell nsore nheld nlead rows : Nat → Int32} (h : NowR P hr pn wl ncell nsore nheld nlead rows) : t9 P (ncell, nsore, nheld) := ⟨h.2.2.2.2.2.1, h.2.2.2.2.2.2.1, h.2.2.2.2.2.2.2.1⟩
theorem mask32 (n : Nat) : (nI n).toInt64 &&& (4294967295 : Int64) = lN (n % 2 ^ 32) := by
  have e : (nI n).toInt64 = Int64.ofInt (nI n).toInt := by
    apply Int64.toInt_inj.mp
    have hr := fb_rng (nI n)
    rw [Int32.toInt_toInt64, Int64.toInt_ofInt, fb_bmodL (by omega) (by omega)]
  apply wb_inj
  apply BitVec.eq_of_toNat_eq
  have h1 : ((nI n).toInt64 &&& (4294967295 : Int64)).toBitVec = (nI n).toInt64.toBitVec &&& (4294967295#64) := rfl
  have h2 : (nI n).toInt64.toBitVec.toNat % 2 ^ 32 = n % 2 ^ 32 := by
    have h3 : (nI n).toInt64.toBitVec = (nI n).toBitVec.signExtend 64 := rfl
    have h4 : (nI n).toBitVec = BitVec.ofNat 32 n := rfl
    rw [h3, h4]
    have h5 : ((BitVec.ofNat 32 n).signExtend 64).setWidth 32 = BitVec.ofNat 32 n := by
      apply BitVec.eq_of_getLsbD_eq
      intro i hi
      have h64 : i < 64 := by omega
      rw [BitVec.getLsbD_setWidth, BitVec.getLsbD_signExtend]
      simp [hi, h64]
    have h6 := congrArg BitVec.toNat h5
    rw [BitVec.toNat_setWidth, BitVec.toNat_ofNat] at h6
    exact h6
  rw [h1, BitVec.toNat_and, show (4294967295#64).toNat = 2 ^ 32 - 1 by decide, Nat.and_two_pow_sub_one_eq_mod, h2, lN_bv, BitVec.toNat_ofNat]
  have : n % 2 ^ 32 < 2 ^ 32 := Nat.mod_lt _ (by decide)
  omega
theorem walls_back {wl : Nat} (h : wl < 2 ^ 36) : ((((((lN wl).toUInt64 >>> ((32 : Int32).toInt64.toUInt64 &&& Int64.toUInt64 63)).toInt64).toInt32).toInt64) <<< ((32 : Int32).toInt64 &&& 63)) ||| (((lN wl).toInt32).toInt64 &&& (4294967295 : Int64)) = lN wl := by
  rw [lN_i, mask32, show (32 : Int32) = nI 32 from rfl, wb_shr (by omega) (by decide), lN_i, nI_l (by omega), wb_shl _ (by decide), fb_orL]
  congr 1
  have hm : wl % 2 ^ 32 < 2 ^ 32 := Nat.mod_lt _ (by decide)
  rw [Nat.mul_comm, ← Nat.two_pow_add_eq_or_of_lt hm]
  exact Nat.div_add_mod wl (2 ^ 32)
theorem cm_hours {P : Pl} (hP : plOk P) {hr pn wl nx na : Nat} {ncell nsore nheld nlead rows drows mkept refd mrefd : Nat → Int32} {mwl mways mlight mcode mtold mpile vals gst hst : Nat → Int32} {mga mha mthr : Int32} (hm : mPl P mwl mways mlight mcode mga mha) (hA : ActR P hr pn wl nx na ncell nsore nheld nlead rows drows mkept refd mrefd) {a1 : Int32} : zwp (f_X11_hours a1 (nI na) (nI nx) drows vals ncell (nI (qF P)) nheld (nI hr) nlead (nI pn) nsore (lN wl) (qDb P) (nI (qF P)) (qGc P) (nI (qGn P)) gst (nI (qH P)) (qHc P) (nI (qHn P)) hst (qLt P) (nI (qNl P)) (qSt P) (qWy P) (nI (qW P)) refd) (fun r => zwp (f_X12_hours a1 (nI na) mcode (qDb P) (-1 : Int32) (nI (qF P)) mga mha mkept mlight (nI (qNl P)) mpile mrefd rows (nI (qH P)) mthr mtold mwl mways (nI (qW P))) (fun s => s.1 = r.1 ∧ s.2.2.2.2.2.2.1 = 0 ∧ ∃ nx2 na2 hr2, r.2.1 = nI na2 ∧ s.2.1 = nI na2 ∧ r.2.2.1 = nI nx2 ∧ r.2.2.2.2.2.2.2.1 = nI hr2 ∧ ActR P hr2 pn wl nx2 na2 r.2.2.2.2.2.1 r.2.2.2.2.2.2.2.2.1 r.2.2.2.2.2.2.1 nlead s.2.2.2.2.2.1 r.2.2.2.1 s.2.2.1 r.2.2.2.2.2.2.2.2.2.2.2 s.2.2.2.2.1)) := by
  have hF := hP.2.2.2.2.1
  have hWH := hP.wh
  obtain ⟨hN, hD, hRf⟩ := hA
  have hr9 := hN.2.2.1
  unfold f_X11_hours f_X12_hours
  have hno : zwp (Option.bind (f_X11_refuseAct refd) (fun q => match q with | (r2, o1) => some (r2, nI na, nI nx, drows, vals, ncell, nheld, nI hr, nsore, gst, hst, o1))) (fun r => r = (-1, nI na, nI nx, drows, vals, ncell, nheld, nI hr, nsore, gst, hst, upd refd 1 (refd 1 + 1))) := zi_beq rfl (zwi rfl)
  cases hi : inR 1 20 a1 with
  | false =>
    have h2 : ¬ ((1 : Int) ≤ a1.toInt ∧ a1.toInt ≤ 20) := of_decide_eq_false hi
    refine zwp_mono (Q := fun r => r = (-1, nI na, nI nx, drows, vals, ncell, nheld, nI hr, nsore, gst, hst, upd refd 1 (refd 1 + 1))) ?_ ?_
    · refine zi_c (fun q => hno) (fun q => zi_t ?_ hno)
      rw [show (1 : Int32) = nI 1 from rfl, ck_ltn (by decide)] at q
      rw [show (20 : Int32) = nI 20 from rfl, fa_lt, nI_toInt (by decide)]
      omega
    · rintro _ rfl
      refine zi_beq (m_within (lo := 1) (hi := 20) (by decide) (by decide)) ?_
      rw [hi]
      exact zi_t rfl (zi_beq m_refuses1 (zwi ⟨rfl, rfl, nx, na, hr, rfl, rfl, rfl, rfl, hN, hD, ref_upd hRf (by decide)⟩))
  | true =>
    obtain ⟨n, hn1, hn2, rfl⟩ := inR_t hi
    refine zi_f (by rw [show (1 : Int32) = nI 1 from rfl]; exact nI_nlt hn1 (by omega)) (zi_f (by rw [show (20 : Int32) = nI 20 from rfl]; exact nI_nlt hn2 (by omega)) ?_)
    have hr0 : rows 0 = nI hr := hN.1.1
    rw [hr0, nI_add]
    by_cases hle : hr + n ≤ 9999
    · refine zi_t (by rw [show (9999 : Int32) = nI 9999 from rfl]; exact nI_le hle (by decide)) ?_
      refine zi_bind (zwp_mono (c_keep (nx := nx) (na := na) (hr := hr) (pn := pn) (wl := wl) hD.1 hD.2.1) ?_)
      rintro ⟨u1, u2, u3⟩ ⟨k1, k2, k3, k4, k5, k6, k7⟩
      dsimp only at k1 k2 k3 k4 k5 k6 k7 ⊢
      subst k1 k2
      refine zi_bind (zwp_mono (c_passHours hP (ld := fun _ => 0) (by omega) (by omega) (fun f hf => ⟨hN.2.2.2.2.2.2.2.2 f hf, by omega⟩) (hN.wl63 hP) hN.tk) ?_)
      rintro ⟨q1, q2, q3, q4, q5, q6, q7⟩ ⟨g1, g2, g3, g4⟩
      dsimp only at g1 g2 g3 g4 ⊢
      subst g1 g2 g3 g4
      refine zwi ?_
      refine zi_beq (m_within (lo := 1) (hi := 20) (by decide) (by decide)) ?_
      rw [hi]
      refine zi_f (by decide) (zi_t (by rw [show (9999 : Int32) = nI 9999 from rfl]; exact nI_le hle (by decide)) ?_)
      refine zi_bind (zwp_mono (m_keeps hD.2.1) ?_)
      rintro ⟨v1, v2⟩ ⟨l1, l2, l3⟩
      dsimp only at l1 l2 l3 ⊢
      subst l1
      have hD2 := dia_keep hP hD hN k3 k4 k5 k6 k7 l2 l3
      refine zl_bind (P := fun k a => ∃ p r t, a = (nI k, p, r, t) ∧ rRow (qF P) 0 r (hr + k) (sRun P wl (fun _ => 0) hr (ncell, nsore, nheld) k).1 (sRun P wl (fun _ => 0) hr (ncell, nsore, nheld) k).2.1 (sRun P wl (fun _ => 0) hr (ncell, nsore, nheld) k).2.2 (fun _ => 0) wl ∧ rFr 0 rows r) (Post := fun b => rRow (qF P) 0 b.2.1 (hr + n) (sRun P wl (fun _ => 0) hr (ncell, nsore, nheld) n).1 (sRun P wl (fun _ => 0) hr (ncell, nsore, nheld) n).2.1 (sRun P wl (fun _ => 0) hr (ncell, nsore, nheld) n).2.2 (fun _ => 0) wl ∧ rFr 0 rows b.2.1) n (by omega) ⟨mpile, rows, mtold, rfl, hN.1, rFr_rf⟩ ?_ ?_ ?_
      · rintro k hk _ ⟨p, r, t, rfl, h1, h2⟩
        refine zi_f (nI_ge hk (by omega)) ?_
        refine zi_bind (zwp_mono (m_hourGoes hP hm (b := 0) (by omega) h1 (by omega) (fun f _ => by omega) (Or.inl ⟨rfl, rfl⟩) (sRun_ok hP hN.tk k).1 (sRun_ok hP hN.tk k).2) ?_)
        rintro ⟨w1, w2, w3⟩ ⟨x1, x2⟩
        exact zwi ⟨w1, w2, w3, by rw [nI_1], x1, rFr_tr h2 x2⟩
      · rintro _ ⟨p, r, t, rfl, h1, h2⟩
        exact zi_t (nI_le (Nat.le_refl _) (by omega)) (zwi ⟨h1, h2⟩)
      · rintro ⟨w1, w2, w3⟩ ⟨x1, x2⟩
        dsimp only at x1 x2 ⊢
        have h9 := sRun_9 hP (wl := wl) (ld := fun _ => 0) (hr := hr) hN.t9 n
        exact zwi ⟨x1.1, rfl, (nx + 1) % 40, naN na, hr + n, rfl, rfl, rfl, rfl, ⟨x1, (x2 69 (by omega)).trans hN.2.1, hle, hN.2.2.2.1, hN.2.2.2.2.1, h9.1, h9.2.1, h9.2.2, hN.2.2.2.2.2.2.2.2⟩, hD2, hRf⟩
    · refine zi_f (by rw [show (9999 : Int32) = nI 9999 from rfl]; exact nI_ge (by omega) (by omega)) ?_
      refine zwp_mono hno ?_
      rintro _ rfl
      refine zi_beq (m_within (lo := 1) (hi := 20) (by decide) (by decide)) ?_
      rw [hi]
      exact zi_f (by decide) (zi_f (by rw [show (9999 : Int32) = nI 9999 from rfl]; exact nI_ge (by omega) (by omega)) (zi_beq m_refuses1 (zwi ⟨rfl, rfl, nx, na, hr, rfl, rfl, rfl, rfl, hN, hD, ref_upd hRf (by decide)⟩)))
theorem cm_undo {P : Pl} (hP : plOk P) {hr pn wl nx na : Nat} {ncell nsore nheld nlead rows drows mkept refd mrefd : Nat → Int32} {mwl mways mlight mcode mtold mpile vals gst hst : Nat → Int32} {mga mha mthr : Int32} (hm : mPl P mwl mways mlight mcode mga mha) (hA : ActR P hr pn wl nx na ncell nsore nheld nlead rows drows mkept refd mrefd) : zwp (f_X11_undo (nI na) (nI nx) drows ncell nheld (nI hr) (nI pn) nsore (lN wl)) (fun r => zwp (f_X12_undo (nI na) mkept rows mthr) (fun s => s.1 = r.1 ∧ s.2.2.2 = 0 ∧ ∃ nx2 na2 hr2 pn2 wl2, r.2.1 = nI na2 ∧ s.2.1 = nI na2 ∧ r.2.2.1 = nI nx2 ∧ r.2.2.2.2.2.1 = nI hr2 ∧ r.2.2.2.2.2.2.1 = nI pn2 ∧ r.2.2.2.2.2.2.2.2 = lN wl2 ∧ ActR P hr2 pn2 wl2 nx2 na2 r.2.2.2.1 r.2.2.2.2.2.2.2.1 r.2.2.2.2.1 nlead s.2.2.1 drows mkept refd mrefd)) := by
  have hF := hP.2.2.2.2.1
  have hWH := hP.wh
  obtain ⟨hN, hD, hRf⟩ := hA
  unfold f_X11_undo f_X12_undo
  obtain ⟨hx, ha, hold⟩ := id hD
  by_cases h0 : na = 0
  · subst h0
    refine zi_t rfl (zwi (zi_t rfl (zwi ⟨rfl, rfl, nx, 0, hr, pn, wl, rfl, rfl, rfl, rfl, rfl, rfl, hN, hD, hRf⟩)))
  · have hne : ¬ nI na = 0 := nI_ne0 (by omega) (by omega)
    refine zi_f hne ?_
    unfold f_X0_takeBack
    have enx : nI nx + 40 - 1 - (nI nx + 40 - 1) / 40 * 40 = nI ((nx + 39) % 40) := by
      rw [show (40 : Int32) = nI 40 from rfl, nI_add, nI_m1 _ (by omega), pk_rem (by omega) (by decide) (by decide)]
      congr 1
    have ena : nI na - 1 = nI (na - 1) := nI_m1 _ (by omega)
    rw [enx, ena, show nI ((nx + 39) % 40) * 28 = nI (28 * ((nx + 39) % 40)) by rw [show (28 : Int32) = nI 28 from rfl, pk_mul, Nat.mul_comm]]
    have hsv := hold (na - 1) (by omega)
    rw [show (nx + 40 - na + (na - 1)) % 40 = (nx + 39) % 40 by omega] at hsv
    have ho : 28 * ((nx + 39) % 40) + 28 ≤ 1120 := by omega
    obtain ⟨hr2, pn2, wl2, ⟨s0, s1, s2, s3⟩, hN2⟩ := hsv
    refine zi_bind (zi_f (nI_nle (by omega) (by omega)) ?_)
    generalize eo : 28 * ((nx + 39) % 40) = o at ho s0 s1 s2 s3 hN2
    unfold f_X8_loadFrom
    have e1 : nI o + 1 = nI (o + 1) := nI_1 o
    have e2 : nI o + 2 = nI (o + 2) := by rw [show (2 : Int32) = nI 2 from rfl, nI_add]
    have e3 : nI o + 3 = nI (o + 3) := by rw [show (3 : Int32) = nI 3 from rfl, nI_add]
    have e4 : nI o + 4 = nI (o + 4) := by rw [show (4 : Int32) = nI 4 from rfl, nI_add]
    have e5 : nI (o + 4) + 8 = nI (o + 12) := by rw [show (8 : Int32) = nI 8 from rfl, nI_add]
    have e6 : nI (o + 4) + 16 = nI (o + 20) := by rw [show (16 : Int32) = nI 16 from rfl, nI_add]
    have e7 : nI o + 28 = nI (o + 28) := by rw [show (28 : Int32) = nI 28 from rfl, nI_add]
    rw [e1, e2, e3, e4, e5, e6, e7]
    refine zi_bind (zi_f (nI_pos (by omega)) (zi_t (nI_le (by omega) (by omega)) ?_))
    rw [zbnd_nI (by omega) (by decide), zbnd_nI (by omega) (by decide), zbnd_nI (by omega) (by decide), zbnd_nI (by omega) (by decide), nI_clamp (by omega), nI_clamp (by omega), nI_clamp (by omega), nI_clamp (by omega), nI_clamp (by omega), nI_clamp (by omega), nI_clamp (by omega), s0, s1, s2, s3, walls_back (hN2.wl36 hP)]
    refine zi_cpg (dp := 0) (n := 8) rfl rfl rfl (by omega) (by omega) (by decide) (by decide) ?_
    refine zi_cpg (dp := 0) (n := 8) rfl rfl rfl (by omega) (by omega) (by decide) (by decide) ?_
    refine zi_cpg (dp := 0) (n := 8) rfl rfl rfl (by omega) (by omega) (by decide) (by decide) ?_
    refine zwi (zwi (zwi ?_))
    refine zi_f hne ?_
    refine zl_bind (P := fun i a => ∃ g, a = (nI i, g) ∧ ∀ k, k < i → g k = mkept (70 * (na - 1) + k)) (Post := fun g => ∀ k, k < 70 → g k = mkept (70 * (na - 1) + k)) 70 (by decide) ⟨rows, rfl, fun k hk => by omega⟩ ?_ ?_ ?_
    · rintro i hi _ ⟨g, rfl, h3⟩
      rw [show (70 : Int32) = nI 70 from rfl, pk_mul]
      refine zi_f (nI_ge hi (by decide)) ?_
      rw [nI_add, zbnd_nI (by omega) (by decide), zbnd_nI (by omega) (by decide), nI_clamp (by omega), nI_clamp (by omega), nI_1]
      refine zwi ⟨_, rfl, fun k hk => ?_⟩
      by_cases he : k = i
      · subst he; rw [pk_us]
      · rw [pk_un he]; exact h3 k (by omega)
    · rintro _ ⟨g, rfl, h3⟩
      exact zi_t (nI_le (Nat.le_refl _) (by decide)) (zwi h3)
    · intro g hg
      refine zwi ⟨rfl, rfl, (nx + 39) % 40, na - 1, hr2, pn2, wl2, rfl, rfl, rfl, rfl, rfl, rfl, ?_, ⟨by omega, by omega, fun i hi => ?_⟩, hRf⟩
      · refine hN2.cg hP (fun f hf => ?_) (fun f hf => ?_) (fun f hf => ?_) hN.2.2.2.2.2.2.2.2 (fun k hk => hg k hk)
        · dsimp only; rw [pk_cpy_in (by omega) (by omega)]; congr 1
        · dsimp only; rw [pk_cpy_in (by omega) (by omega)]; congr 1
        · dsimp only; rw [pk_cpy_in (by omega) (by omega)]; congr 1
      · rw [show ((nx + 39) % 40 + 40 - (na - 1) + i) % 40 = (nx + 40 - na + i) % 40 by omega]
        exact hold i (by omega)
