/-! CHECKS, AND HOURS TO COME -/
/-- a number from 0 on, below n -/
def okN (n : Nat) (a : Int32) : Bool := decide (0 ≤ a.toInt ∧ a.toInt < n)
def inR (lo hi : Nat) (a : Int32) : Bool := decide ((lo : Int) ≤ a.toInt ∧ a.toInt ≤ hi)
theorem okN_t {n : Nat} {a : Int32} (h : okN n a = true) : ∃ f, f < n ∧ a = nI f := by
  have h2 := of_decide_eq_true h
  have hr := fb_rng a
  refine ⟨a.toInt.toNat, by omega, ?_⟩
  rw [fa_eq, nI_toInt (by omega)]
  omega
theorem inR_t {lo hi : Nat} {a : Int32} (h : inR lo hi a = true) : ∃ f, lo ≤ f ∧ f ≤ hi ∧ a = nI f := by
  have h2 := of_decide_eq_true h
  have hr := fb_rng a
  refine ⟨a.toInt.toNat, by omega, by omega, ?_⟩
  rw [fa_eq, nI_toInt (by omega)]
  omega
theorem okN_nI {n f : Nat} (h : f < n) (hn : n < 2 ^ 31) : okN n (nI f) = true := by
  unfold okN
  rw [nI_toInt (by omega)]
  exact decide_eq_true ⟨by omega, by omega⟩
theorem inR_nI {lo hi f : Nat} (h : lo ≤ f) (h2 : f ≤ hi) (hn : hi < 2 ^ 31) : inR lo hi (nI f) = true := by
  unfold inR
  rw [nI_toInt (by omega)]
  exact decide_eq_true ⟨by omega, by omega⟩
theorem ck_lt0 {a : Int32} : a < 0 ↔ a.toInt < 0 := by rw [fa_lt]; rfl
theorem ck_ltn {a : Int32} {n : Nat} (hn : n < 2 ^ 31) : a < nI n ↔ a.toInt < n := by rw [fa_lt, nI_toInt hn]
theorem ck_nle {a : Int32} {n : Nat} (hn : n < 2 ^ 31) : nI n ≤ a ↔ (n : Int) ≤ a.toInt := by rw [fa_le, nI_toInt hn]
theorem ck_len {a : Int32} {n : Nat} (hn : n < 2 ^ 31) : a ≤ nI n ↔ a.toInt ≤ n := by rw [fa_le, nI_toInt hn]
theorem c_checkFigure {F : Nat} {a : Int32} (hF : F < 2 ^ 31) : f_X11_checkFigure a (nI F) = some (cond (okN F a) (.inl ()) (.inr x_N)) := by
  unfold f_X11_checkFigure okN
  by_cases h1 : a < 0
  · rw [if_pos h1]; rw [ck_lt0] at h1
    rw [decide_eq_false (by omega)]; rfl
  · rw [if_neg h1]; rw [ck_lt0] at h1
    by_cases h2 : a < nI F
    · rw [if_pos h2]; rw [ck_ltn hF] at h2
      rw [decide_eq_true (by omega)]; rfl
    · rw [if_neg h2]; rw [ck_ltn hF] at h2
      rw [decide_eq_false (by omega)]; rfl
theorem c_checkCell {W H : Nat} {a : Int32} (hF : W * H < 2 ^ 31) : f_X11_checkCell a (nI H) (nI W) = some (cond (okN (W * H) a) (.inl ()) (.inr x_N)) := by
  unfold f_X11_checkCell okN f_X3_cells
  show (if a < 0 then _ else (if a < nI W * nI H then _ else _)) = _
  rw [pk_mul]
  by_cases h1 : a < 0
  · rw [if_pos h1]; rw [ck_lt0] at h1
    rw [decide_eq_false (by omega)]; rfl
  · rw [if_neg h1]; rw [ck_lt0] at h1
    by_cases h2 : a < nI (W * H)
    · rw [if_pos h2]; rw [ck_ltn hF] at h2
      rw [decide_eq_true (by omega)]; rfl
    · rw [if_neg h2]; rw [ck_ltn hF] at h2
      rw [decide_eq_false (by omega)]; rfl
theorem c_checkWhat {n : Nat} {a : Int32} (hF : n < 2 ^ 31) : f_X11_checkWhat a (nI n) = some (cond (okN (n + 1) a) (.inl ()) (.inr x_N)) := by
  unfold f_X11_checkWhat okN
  by_cases h1 : a < 0
  · rw [if_pos h1]; rw [ck_lt0] at h1
    rw [decide_eq_false (by omega)]; rfl
  · rw [if_neg h1]; rw [ck_lt0] at h1
    by_cases h2 : a ≤ nI n
    · rw [if_pos h2]; rw [ck_len hF] at h2
      rw [decide_eq_true (by omega)]; rfl
    · rw [if_neg h2]; rw [ck_len hF] at h2
      rw [decide_eq_false (by omega)]; rfl
theorem c_checkHours {lo hi : Nat} {a : Int32} (hl : lo < 2 ^ 31) (hh : hi < 2 ^ 31) : f_X11_checkHours a (nI lo) (nI hi) = some (cond (inR lo hi a) (.inl ()) (.inr x_I)) := by
  unfold f_X11_checkHours inR
  by_cases h1 : a < nI lo
  · rw [if_pos h1]; rw [ck_ltn hl] at h1
    rw [decide_eq_false (by omega)]; rfl
  · rw [if_neg h1]; rw [ck_ltn hl] at h1
    by_cases h2 : a ≤ nI hi
    · rw [if_pos h2]; rw [ck_len hh] at h2
      rw [decide_eq_true (by omega)]; rfl
    · rw [if_neg h2]; rw [ck_len hh] at h2
      rw [decide_eq_false (by omega)]; rfl
theorem m_right0 {c : Bool} {w : Int32} (hw : ¬ w = 0) : f_X12_right (b2 c) w 0 = some (b2 c, cond c 0 w) := by
  unfold f_X12_right
  cases c with
  | true => rfl
  | false =>
    show Option.bind (if (0 : Int32) = 0 then (if (0 : Int32) = 0 then some w else _) else _) _ = _
    rw [if_pos rfl, if_pos rfl]
    show (if w = 0 then _ else _) = _
    rw [if_neg hw]; rfl
theorem m_within {lo hi : Nat} {a : Int32} (hl : lo < 2 ^ 31) (hh : hi < 2 ^ 31) : f_X12_within a (nI lo) (nI hi) = some (b2 (inR lo hi a)) := by
  unfold f_X12_within inR
  by_cases h1 : a < nI lo
  · rw [if_pos h1]; rw [ck_ltn hl] at h1
    rw [decide_eq_false (by omega)]; rfl
  · rw [if_neg h1]; rw [ck_ltn hl] at h1
    by_cases h2 : nI hi < a
    · rw [if_pos h2]; rw [fa_lt, nI_toInt hh] at h2
      rw [decide_eq_false (by omega)]; rfl
    · rw [if_neg h2]; rw [fa_lt, nI_toInt hh] at h2
      rw [decide_eq_true (by omega)]; rfl
theorem inR_okN {n : Nat} {a : Int32} : inR 0 n a = okN (n + 1) a := by
  unfold inR okN
  by_cases h : 0 ≤ a.toInt ∧ a.toInt < (n + 1 : Nat)
  · rw [decide_eq_true h, decide_eq_true (by omega)]
  · rw [decide_eq_false h, decide_eq_false (by omega)]
theorem m_isFigure {F : Nat} {a : Int32} (hF : F < 2 ^ 31) : f_X12_isFigure a (nI F) 0 = some (b2 (okN F a), cond (okN F a) 0 1) := by
  unfold f_X12_isFigure
  have e : (if a < 0 then some (0 : Int32) else (if nI F ≤ a then some 0 else some 1)) = some (b2 (okN F a)) := by
    unfold okN
    by_cases h1 : a < 0
    · rw [if_pos h1]; rw [ck_lt0] at h1
      rw [decide_eq_false (by omega)]; rfl
    · rw [if_neg h1]; rw [ck_lt0] at h1
      by_cases h2 : nI F ≤ a
      · rw [if_pos h2]; rw [ck_nle hF] at h2
        rw [decide_eq_false (by omega)]; rfl
      · rw [if_neg h2]; rw [ck_nle hF] at h2
        rw [decide_eq_true (by omega)]; rfl
  rw [e]
  show Option.bind (f_X12_right (b2 _) 1 0) _ = _
  rw [m_right0 (by decide)]
  show zbol (b2 _) _ = _
  rw [b2_bol]
theorem m_isCell {W H : Nat} {a : Int32} (hF : W * H < 2 ^ 31) : f_X12_isCell a (nI H) 0 (nI W) = some (b2 (okN (W * H) a), cond (okN (W * H) a) 0 1) := by
  unfold f_X12_isCell
  have e : (if a < 0 then some (0 : Int32) else (if nI W * nI H ≤ a then some 0 else some 1)) = some (b2 (okN (W * H) a)) := by
    unfold okN
    rw [pk_mul]
    by_cases h1 : a < 0
    · rw [if_pos h1]; rw [ck_lt0] at h1
      rw [decide_eq_false (by omega)]; rfl
    · rw [if_neg h1]; rw [ck_lt0] at h1
      by_cases h2 : nI (W * H) ≤ a
      · rw [if_pos h2]; rw [ck_nle hF] at h2
        rw [decide_eq_false (by omega)]; rfl
      · rw [if_neg h2]; rw [ck_nle hF] at h2
        rw [decide_eq_true (by omega)]; rfl
  rw [e]
  show Option.bind (f_X12_right (b2 _) 1 0) _ = _
  rw [m_right0 (by decide)]
  show zbol (b2 _) _ = _
  rw [b2_bol]
theorem m_isWhat {n : Nat} {a : Int32} (hF : n < 2 ^ 31) : f_X12_isWhat a (nI n) 0 = some (b2 (okN (n + 1) a), cond (okN (n + 1) a) 0 1) := by
  unfold f_X12_isWhat
  rw [show (0 : Int32) = nI 0 from rfl, m_within (by decide) hF, inR_okN]
  show Option.bind (f_X12_right (b2 _) 1 0) _ = _
  rw [m_right0 (by decide)]
  show zbol (b2 _) _ = _
  rw [b2_bol]
  rfl
theorem m_isSoon {lo : Nat} {a w : Int32} (hl : lo < 2 ^ 31) (hw : ¬ w = 0) : f_X12_isSoon a (nI lo) w 0 = some (b2 (inR lo 100 a), cond (inR lo 100 a) 0 w) := by
  unfold f_X12_isSoon
  rw [show (100 : Int32) = nI 100 from rfl, m_within hl (by decide)]
  show Option.bind (f_X12_right (b2 _) w 0) _ = _
  rw [m_right0 hw]
  show zbol (b2 _) _ = _
  rw [b2_bol]
/-- cells, sore, held -/
abbrev Tn : Type := (Nat → Int32) × (Nat → Int32) × (Nat → Int32)
/-- an hour -/
noncomputable def sHr (P : Pl) (wl : Nat) (ld : Nat → Nat) (hr : Nat) (dl : Bool) (t : Tn) : Tn := ((sFigs P wl hr ld dl t.2.2 (t.1, t.2.1) (qF P)).1, (sFigs P wl hr ld dl t.2.2 (t.1, t.2.1) (qF P)).2, sDec t.2.2 (qF P))
/-- hours to come -/
noncomputable def sRun (P : Pl) (wl : Nat) (ld : Nat → Nat) (hr : Nat) (t : Tn) : Nat → Tn
  | 0 => t
  | k + 1 => sHr P wl ld (hr + k) (sDull P (hr + k)) (sRun P wl ld hr t k)
def tOk (P : Pl) (t : Tn) : Prop := clOk P t.1 ∧ hdOk (qF P) t.2.2
theorem sHr_ok {P : Pl} (hP : plOk P) {wl : Nat} {ld : Nat → Nat} {hr : Nat} {dl : Bool} {t : Tn} (h : tOk P t) : tOk P (sHr P wl ld hr dl t) := by
  refine ⟨sFigs_ok hP h.1 _ (Nat.le_refl _), fun f hf => ?_⟩
  obtain ⟨x, hx, hx2⟩ := h.2 f hf
  show ∃ h, sDec t.2.2 (qF P) f = nI h ∧ h < 2 ^ 30
  unfold sDec
  rw [if_pos hf, hx]
  by_cases h0 : x = 0
  · subst h0; exact ⟨0, rfl, by decide⟩
  · rw [nI_m1 _ (by omega)]
    by_cases h1 : (0 : Int32) < nI (x - 1)
    · rw [if_pos h1]; exact ⟨x - 1, rfl, by omega⟩
    · rw [if_neg h1]; exact ⟨0, rfl, by decide⟩
theorem sRun_ok {P : Pl} (hP : plOk P) {wl : Nat} {ld : Nat → Nat} {hr : Nat} {t : Tn} (h : tOk P t) : ∀ k, tOk P (sRun P wl ld hr t k)
  | 0 => h
  | k + 1 => sHr_ok hP (sRun_ok hP h k)
theorem c_passHours {P : Pl} (hP : plOk P) {n wl hr : Nat} {ld : Nat → Nat} {ncell nsore nheld nlead vals gst hst : Nat → Int32} (hn : n ≤ 1000) (hh : hr < 2 ^ 28) (hl : ∀ f, f < qF P → nlead f = nI (ld f) ∧ ld f < 2 ^ 30) (hw : wl < 2 ^ 63) (ht : tOk P (ncell, nsore, nheld)) : zwp (f_X2_passHours (nI n) (qDb P) (nI (qF P)) (qGc P) (nI (qGn P)) gst (nI (qH P)) (qHc P) (nI (qHn P)) hst (qLt P) (nI (qNl P)) (qSt P) (qWy P) (nI (qW P)) ncell (nI (qF P)) nheld (nI hr) nlead nsore (lN wl) vals) (fun r => r.2.2.1 = (sRun P wl ld hr (ncell, nsore, nheld) n).1 ∧ r.2.2.2.1 = (sRun P wl ld hr (ncell, nsore, nheld) n).2.2 ∧ r.2.2.2.2.1 = nI (hr + n) ∧ r.2.2.2.2.2.1 = (sRun P wl ld hr (ncell, nsore, nheld) n).2.1) := by
  unfold f_X2_passHours
  refine zl_bind (P := fun k a => ∃ g h v, a = (nI k, g, h, (sRun P wl ld hr (ncell, nsore, nheld) k).1, (sRun P wl ld hr (ncell, nsore, nheld) k).2.2, nI (hr + k), (sRun P wl ld hr (ncell, nsore, nheld) k).2.1, v)) (Post := fun b => ∃ g h v, b = (g, h, (sRun P wl ld hr (ncell, nsore, nheld) n).1, (sRun P wl ld hr (ncell, nsore, nheld) n).2.2, nI (hr + n), (sRun P wl ld hr (ncell, nsore, nheld) n).2.1, v)) n (by omega) ⟨gst, hst, vals, rfl⟩ ?_ ?_ ?_
  · rintro k hk _ ⟨g, h, v, rfl⟩
    refine zi_f (nI_ge hk (by omega)) ?_
    refine zi_beq (c_isDull hP.2.2.2.2.2.1 (by omega)) ?_
    refine zi_bind (zwp_mono (c_passHour hP (by omega) hl hw (sRun_ok hP ht k).1) ?_)
    rintro ⟨o1, o2, o3, o4, o5, o6, o7⟩ ⟨e1, e2, e3, e4⟩
    dsimp only at e1 e2 e3 e4
    subst e1 e2 e3 e4
    exact zwi ⟨o1, o2, o7, by rw [nI_1]; rfl⟩
  · rintro _ ⟨g, h, v, rfl⟩
    exact zi_t (nI_le (Nat.le_refl _) (by omega)) (zwi ⟨g, h, v, rfl⟩)
  · rintro _ ⟨g, h, v, rfl⟩
    exact zwi ⟨rfl, rfl, rfl, rfl⟩
theorem c_passFuture {P : Pl} (hP : plOk P) {wl hr : Nat} {ld : Nat → Nat} {fcell fsore fheld flead vals gst hst : Nat → Int32} (hh : hr < 2 ^ 28) (hl : ∀ f, f < qF P → flead f = nI (ld f) ∧ ld f < 2 ^ 30) (hw : wl < 2 ^ 63) (ht : tOk P (fcell, fsore, fheld)) : zwp (f_X11_passFuture fcell (nI (qF P)) fheld (nI hr) flead fsore (lN wl) vals (qDb P) (nI (qF P)) (qGc P) (nI (qGn P)) gst (nI (qH P)) (qHc P) (nI (qHn P)) hst (qLt P) (nI (qNl P)) (qSt P) (qWy P) (nI (qW P))) (fun r => r.1 = (sHr P wl ld hr (sDull P hr) (fcell, fsore, fheld)).1 ∧ r.2.1 = (sHr P wl ld hr (sDull P hr) (fcell, fsore, fheld)).2.2 ∧ r.2.2.1 = nI (hr + 1) ∧ r.2.2.2.1 = (sHr P wl ld hr (sDull P hr) (fcell, fsore, fheld)).2.1) := by
  unfold f_X11_passFuture
  refine zi_beq (c_isDull hP.2.2.2.2.2.1 (by omega)) ?_
  refine zi_bind (zwp_mono (c_passHour hP (by omega) hl hw ht.1) ?_)
  rintro ⟨o1, o2, o3, o4, o5, o6, o7⟩ ⟨e1, e2, e3, e4⟩
  exact zwi ⟨e1, e2, e3, e4⟩
/-- the town that is played on: a copy of the first eight -/
def tCp (ncell nsore nheld fcell fsore fheld : Nat → Int32) : Tn := (va_cpy ncell fcell 0 0 8, va_cpy nsore fsore 0 0 8, va_cpy nheld fheld 0 0 8)
theorem cpy8 {f g : Nat → Int32} {k : Nat} (h : k < 8) : va_cpy f g 0 0 8 k = f k := by
  rw [pk_cpy_in (by omega) (by omega)]
  congr 1
  omega
theorem tCp_ok {P : Pl} (hP : plOk P) {ncell nsore nheld fcell fsore fheld : Nat → Int32} (h : tOk P (ncell, nsore, nheld)) : tOk P (tCp ncell nsore nheld fcell fsore fheld) := by
  have hF := hP.2.2.2.2.1
  refine ⟨fun f hf => ?_, fun f hf => ?_⟩
  · show ∃ c, va_cpy ncell fcell 0 0 8 f = nI c ∧ _
    rw [cpy8 (by omega)]; exact h.1 f hf
  · show ∃ c, va_cpy nheld fheld 0 0 8 f = nI c ∧ _
    rw [cpy8 (by omega)]; exact h.2 f hf
theorem c_foresee {P : Pl} (hP : plOk P) {n wl hr : Nat} {ffig fhr fpn : Int32} {pn : Nat} {fwl : Int64} {ncell nsore nheld nlead fcell fsore fheld flead vals gst hst : Nat → Int32} (hn : n ≤ 1000) (hh : hr < 2 ^ 28) (hl : ∀ f, f < qF P → nlead f = nI 0) (hw : wl < 2 ^ 63) (ht : tOk P (ncell, nsore, nheld)) : zwp (f_X11_foresee (nI n) fcell ffig fheld fhr flead fpn fsore fwl vals ncell (nI (qF P)) nheld (nI hr) nlead (nI pn) nsore (lN wl) (qDb P) (nI (qF P)) (qGc P) (nI (qGn P)) gst (nI (qH P)) (qHc P) (nI (qHn P)) hst (qLt P) (nI (qNl P)) (qSt P) (qWy P) (nI (qW P))) (fun r => r.1 = (sRun P wl (fun _ => 0) hr (tCp ncell nsore nheld fcell fsore fheld) n).1 ∧ r.2.1 = nI (qF P) ∧ r.2.2.1 = (sRun P wl (fun _ => 0) hr (tCp ncell nsore nheld fcell fsore fheld) n).2.2 ∧ r.2.2.2.1 = nI (hr + n) ∧ (∀ f, f < qF P → r.2.2.2.2.1 f = nI 0) ∧ r.2.2.2.2.2.2.1 = (sRun P wl (fun _ => 0) hr (tCp ncell nsore nheld fcell fsore fheld) n).2.1 ∧ r.2.2.2.2.2.2.2.1 = lN wl) := by
  have hF := hP.2.2.2.2.1
  unfold f_X11_foresee f_X8_copyFrom
  have hld : ∀ f, f < qF P → va_cpy nlead flead 0 0 8 f = nI 0 := fun f hf => by rw [cpy8 (by omega)]; exact hl f hf
  refine zi_beq rfl ?_
  refine zi_bind (zwp_mono (c_passHours hP (ld := fun _ => 0) hn hh (fun f hf => ⟨hld f hf, by omega⟩) hw (tCp_ok hP ht)) ?_)
  rintro ⟨o1, o2, o3, o4, o5, o6, o7⟩ ⟨e1, e2, e3, e4⟩
  exact zwi ⟨e1, rfl, e2, e3, hld, e4, rfl⟩
/-- the reference's copy -/
theorem m_tries {rows : Nat → Int32} : zwp (f_X12_tries rows) (fun r => (∀ k, k < 70 → r k = rows k) ∧ ∀ k, k < 70 → r (70 + k) = rows k) := by
  unfold f_X12_tries
  refine zl_bind (P := fun i a => ∃ r, a = (nI i, r) ∧ (∀ k, k < 70 → r k = rows k) ∧ ∀ k, k < i → r (70 + k) = rows k) (Post := fun r => (∀ k, k < 70 → r k = rows k) ∧ ∀ k, k < 70 → r (70 + k) = rows k) 70 (by decide) ⟨rows, rfl, fun _ _ => rfl, fun k hk => by omega⟩ ?_ ?_ (fun r h => zwi h)
  · rintro i hi _ ⟨r, rfl, h1, h2⟩
    rw [show (70 : Int32) = nI 70 from rfl]
    refine zi_f (nI_ge hi (by decide)) ?_
    rw [nI_add, zbnd_nI (by omega) (by decide), zbnd_nI (by omega) (by decide), nI_clamp (by omega), nI_clamp (by omega), nI_1]
    refine zwi ⟨_, rfl, fun k hk => by rw [pk_un (by omega)]; exact h1 k hk, fun k hk => ?_⟩
    by_cases he : k = i
    · subst he; rw [pk_us]; exact h1 k hi
    · rw [pk_un (by omega)]; exact h2 k (by omega)
  · rintro _ ⟨r, rfl, h1, h2⟩
    exact zi_t (nI_le (Nat.le_refl _) (by decide)) (zwi ⟨h1, h2⟩)
theorem rRow_cp {F hr wl : Nat} {rows r cell sore held : Nat → Int32} {ld : Nat → Nat} (hF : F ≤ 8) (h : rRow F 0 rows hr cell sore held ld wl) (h2 : ∀ k, k < 70 → r (70 + k) = rows k) : rRow F 70 r hr cell sore held ld wl := by
  obtain ⟨r0, r1, r2, r3, r4, r5⟩ := h
  refine ⟨by rw [← r0]; exact h2 0 (by decide), fun f hf => ?_, fun f hf => ?_, fun f hf => ?_, fun f hf => ?_, fun f hf => ?_⟩
  · rw [← r1 f hf, ← h2 _ (by omega)]; congr 1; omega
  · rw [← r2 f hf, ← h2 _ (by omega)]; congr 1; omega
  · rw [← r3 f hf, ← h2 _ (by omega)]; congr 1; omega
  · rw [← r4 f hf, ← h2 _ (by omega)]; congr 1; omega
  · rw [← r5 f hf, ← h2 _ (by omega)]; congr 1; omega
theorem rRow_cg {F b hr wl : Nat} {rows cell sore held cell' sore' held' : Nat → Int32} {ld : Nat → Nat} (h : rRow F b rows hr cell sore held ld wl) (h1 : ∀ f, f < F → cell f = cell' f) (h2 : ∀ f, f < F → sore f = sore' f) (h3 : ∀ f, f < F → held f = held' f) : rRow F b rows hr cell' sore' held' ld wl := by
  obtain ⟨r0, r1, r2, r3, r4, r5⟩ := h
  exact ⟨r0, fun f hf => by rw [r1 f hf, h1 f hf], fun f hf => by rw [r2 f hf, h2 f hf], fun f hf => by rw [r3 f hf, h3 f hf], r4, r5⟩
theorem rRow_tcp {P : Pl} (hP : plOk P) {hr wl : Nat} {rows r ncell nsore nheld fcell fsore fheld : Nat → Int32} {ld : Nat → Nat} (h : rRow (qF P) 0 rows hr ncell nsore nheld ld wl) (h2 : ∀ k, k < 70 → r (70 + k) = rows k) : rRow (qF P) 70 r hr (tCp ncell nsore nheld fcell fsore fheld).1 (tCp ncell nsore nheld fcell fsore fheld).2.1 (tCp ncell nsore nheld fcell fsore fheld).2.2 ld wl := by
  have hF := hP.2.2.2.2.1
  refine rRow_cg (rRow_cp hF h h2) (fun f hf => ?_) (fun f hf => ?_) (fun f hf => ?_)
  · exact (cpy8 (by omega)).symm
  · exact (cpy8 (by omega)).symm
  · exact (cpy8 (by omega)).symm
/-- an hour of the row that is tried, by the plan's own light -/
theorem m_hour70 {P : Pl} (hP : plOk P) {mwl mways mlight mcode rows mtold mpile : Nat → Int32} {mga mha : Int32} {hr wl : Nat} {ld : Nat → Nat} {t : Tn} (hm : mPl P mwl mways mlight mcode mga mha) (hR : rRow (qF P) 70 rows hr t.1 t.2.1 t.2.2 ld wl) (hh : hr < 2 ^ 28) (hl : ∀ f, f < qF P → ld f < 2 ^ 30) (ht : tOk P t) : zwp (f_X12_hourGoes (70 : Int32) mcode (qDb P) (-1 : Int32) (nI (qF P)) mga mha mlight (nI (qNl P)) mpile rows (nI (qH P)) mtold mwl mways (nI (qW P))) (fun r => rRow (qF P) 70 r.2.1 (hr + 1) (sHr P wl ld hr (sDull P hr) t).1 (sHr P wl ld hr (sDull P hr) t).2.1 (sHr P wl ld hr (sDull P hr) t).2.2 ld wl ∧ ∀ k, k < 70 → r.2.1 k = rows k) := by
  rw [show (70 : Int32) = nI 70 from rfl]
  refine zwp_mono (m_hourGoes hP hm (Nat.le_refl _) hR (by omega) hl (Or.inl ⟨rfl, rfl⟩) ht.1 ht.2) ?_
  rintro r ⟨h1, h2⟩
  exact ⟨h1, fun k hk => h2 k (Or.inl hk)⟩
theorem m_hoursGo {P : Pl} (hP : plOk P) {n : Nat} {mwl mways mlight mcode rows mtold mpile : Nat → Int32} {mga mha : Int32} {hr wl : Nat} {ld : Nat → Nat} {t : Tn} (hm : mPl P mwl mways mlight mcode mga mha) (hR : rRow (qF P) 70 rows hr t.1 t.2.1 t.2.2 ld wl) (hn : n ≤ 1000) (hh : hr < 2 ^ 27) (hl : ∀ f, f < qF P → ld f < 2 ^ 30) (ht : tOk P t) : zwp (f_X12_hoursGo (nI n) mcode (qDb P) (-1 : Int32) (nI (qF P)) mga mha mlight (nI (qNl P)) mpile rows (nI (qH P)) mtold mwl mways (nI (qW P))) (fun r => rRow (qF P) 70 r.2.1 (hr + n) (sRun P wl ld hr t n).1 (sRun P wl ld hr t n).2.1 (sRun P wl ld hr t n).2.2 ld wl ∧ ∀ k, k < 70 → r.2.1 k = rows k) := by
  unfold f_X12_hoursGo
  refine zl_bind (P := fun i a => ∃ p r o, a = (nI i, p, r, o) ∧ rRow (qF P) 70 r (hr + i) (sRun P wl ld hr t i).1 (sRun P wl ld hr t i).2.1 (sRun P wl ld hr t i).2.2 ld wl ∧ ∀ k, k < 70 → r k = rows k) (Post := fun r => rRow (qF P) 70 r.2.1 (hr + n) (sRun P wl ld hr t n).1 (sRun P wl ld hr t n).2.1 (sRun P wl ld hr t n).2.2 ld wl ∧ ∀ k, k < 70 → r.2.1 k = rows k) n (by omega) ⟨mpile, rows, mtold, rfl, hR, fun _ _ => rfl⟩ ?_ ?_ ?_
  · rintro i hi _ ⟨p, r, o, rfl, h1, h2⟩
    refine zi_f (nI_ge hi (by omega)) ?_
    refine zi_bind (zwp_mono (m_hour70 hP hm h1 (by omega) hl (sRun_ok hP ht i)) ?_)
    rintro ⟨o1, o2, o3⟩ ⟨e1, e2⟩
    exact zwi ⟨o1, o2, o3, by rw [nI_1], e1, fun k hk => by rw [← h2 k hk]; exact e2 k hk⟩
  · rintro _ ⟨p, r, o, rfl, h1, h2⟩
    exact zi_t (nI_le (Nat.le_refl _) (by omega)) (zwi ⟨h1, h2⟩)
  · rintro ⟨p, r, o⟩ h
    exact zwi h
