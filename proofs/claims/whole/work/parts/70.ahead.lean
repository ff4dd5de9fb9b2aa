/-! AHEAD: what is noted -/
def ldG (g : Nat) : Nat → Nat := fun f => if f = g / 10 then g % 10 else 0
def sAgr (nn : Nat) (dfig dcell dhrs cell : Nat → Int32) (k : Nat) : Bool := allB (fun i => !(dhrs i == nI k) || (cell (dfig i).toNatClampNeg == dcell i)) nn
noncomputable def sHold (P : Pl) (wl hr : Nat) (t : Tn) (nn : Nat) (dfig dcell dhrs : Nat → Int32) (ld : Nat → Nat) : Bool := allB (fun k => sAgr nn dfig dcell dhrs (sRun P wl ld hr t k).1 k) 21
noncomputable def gOk (P : Pl) (wl hr : Nat) (t : Tn) (nn : Nat) (dfig dcell dhrs : Nat → Int32) (g : Nat) : Bool := decide (¬ qSt P (g / 10) ≤ nI (g % 10)) && (!(g % 10 == 0) && sHold P wl hr t nn dfig dcell dhrs (ldG g))
theorem sAgr_cg {P : Pl} (hF : qF P ≤ 8) {nn k : Nat} {dfig dcell dhrs mnoted cell cell' : Nat → Int32} (hNo : NoteR P nn dfig dcell dhrs mnoted) (h : ∀ f, f < qF P → cell f = cell' f) : sAgr nn dfig dcell dhrs cell k = sAgr nn dfig dcell dhrs cell' k := by
  unfold sAgr
  refine allB_cong (fun i hi => ?_)
  obtain ⟨f, hf, e⟩ := (hNo.2 i hi).2.1
  rw [e, nI_clamp (by omega), h f hf]
theorem sHold_cg {P : Pl} (hP : plOk P) {wl hr nn : Nat} {t u : Tn} {dfig dcell dhrs mnoted : Nat → Int32} {ld : Nat → Nat} (hNo : NoteR P nn dfig dcell dhrs mnoted) (h : tEq (qF P) t u) : sHold P wl hr t nn dfig dcell dhrs ld = sHold P wl hr u nn dfig dcell dhrs ld := by
  unfold sHold
  exact allB_cong (fun k _ => sAgr_cg hP.2.2.2.2.1 hNo (fun f hf => (sRun_cg hP h k f hf).1))
theorem c_agrees {P : Pl} (hF : qF P ≤ 8) {nn k : Nat} {dfig dcell dhrs mnoted cell : Nat → Int32} (hNo : NoteR P nn dfig dcell dhrs mnoted) : zwp (f_X0_agrees (nI k) dcell dfig dhrs (nI nn) cell) (fun r => r = b2 (sAgr nn dfig dcell dhrs cell k)) := by
  have hn := hNo.1
  unfold f_X0_agrees
  refine zl_bs (P := fun i a => a = nI i ∧ ∀ j, j < i → (!(dhrs j == nI k) || (cell (dfig j).toNatClampNeg == dcell j)) = true) (Post := fun _ => sAgr nn dfig dcell dhrs cell k = true) nn (by omega) ⟨rfl, fun j hj => by omega⟩ ?_ ?_ ?_
  · rintro i hi _ ⟨rfl, h⟩
    refine zi_f (nI_ge hi (by omega)) ?_
    obtain ⟨f, hf, e⟩ := (hNo.2 i hi).2.1
    rw [zbnd_nI (by omega) (by decide), nI_clamp (show i < 2 ^ 31 by omega)]
    refine zi_c (fun q => ?_) (fun q => ?_)
    · rw [zbnd_nI (by omega) (by decide), e, zbnd_nI (by omega) (by decide), zbnd_nI (by omega) (by decide), nI_clamp (show f < 2 ^ 31 by omega)]
      refine zi_c (fun q2 => zwi ⟨by rw [nI_1], fun j hj => ?_⟩) (fun q2 => zwi ?_)
      · by_cases ej : j = i
        · subst ej
          rw [e, nI_clamp (by omega), q2, beq_self_eq_true, Bool.or_true]
        · exact h j (by omega)
      · show (0 : Int32) = b2 (sAgr nn dfig dcell dhrs cell k)
        cases hs : sAgr nn dfig dcell dhrs cell k with
        | false => rfl
        | true =>
          have := allB_iff.mp hs i hi
          rw [q, beq_self_eq_true, e, nI_clamp (by omega), beq_false_of_ne q2] at this
          cases this
    · refine zwi ⟨by rw [nI_1], fun j hj => ?_⟩
      by_cases ej : j = i
      · subst ej
        rw [beq_false_of_ne q]; rfl
      · exact h j (by omega)
  · rintro _ ⟨rfl, h⟩
    exact zi_t (nI_le (Nat.le_refl _) (by omega)) (zwi (allB_iff.mpr h))
  · intro _ h
    exact zwi (by rw [h]; rfl)
theorem c_holdsAll {P : Pl} (hP : plOk P) {wl hr nn : Nat} {ld : Nat → Nat} {t : Tn} {dfig dcell dhrs mnoted lead vals gst hst : Nat → Int32} (hNo : NoteR P nn dfig dcell dhrs mnoted) (hh : hr < 2 ^ 27) (hl : ∀ f, f < qF P → lead f = nI (ld f) ∧ ld f < 2 ^ 30) (hw : wl < 2 ^ 63) (ht : tOk P t) : zwp (f_X1_holdsAll dcell dfig dhrs (nI nn) vals (qDb P) (nI (qF P)) (qGc P) (nI (qGn P)) gst (nI (qH P)) (qHc P) (nI (qHn P)) hst (qLt P) (nI (qNl P)) (qSt P) (qWy P) (nI (qW P)) t.1 (nI (qF P)) t.2.2 (nI hr) lead t.2.1 (lN wl)) (fun r => r.1 = b2 (sHold P wl hr t nn dfig dcell dhrs ld)) := by
  have hF := hP.2.2.2.2.1
  unfold f_X1_holdsAll
  refine zl_bs (P := fun k a => ∃ v g h, a = (nI k, v, g, h, (sRun P wl ld hr t k).1, (sRun P wl ld hr t k).2.2, nI (hr + k), (sRun P wl ld hr t k).2.1) ∧ ∀ i, i < k → sAgr nn dfig dcell dhrs (sRun P wl ld hr t i).1 i = true) (Post := fun _ => sHold P wl hr t nn dfig dcell dhrs ld = true) 21 (by decide) ⟨_, _, _, rfl, fun i hi => by omega⟩ ?_ ?_ ?_
  · rintro k hk _ ⟨v, g, h, rfl, ha⟩
    refine zi_f (by rw [show (20 : Int32) = nI 20 from rfl]; exact nI_nlt (by omega) (by decide)) ?_
    refine zi_bind (zwp_mono (c_agrees hF hNo) ?_)
    intro r17 e
    subst e
    cases hs : sAgr nn dfig dcell dhrs (sRun P wl ld hr t k).1 k with
    | false =>
      refine zi_t rfl (zwi ?_)
      show (0 : Int32) = b2 (sHold P wl hr t nn dfig dcell dhrs ld)
      cases hq : sHold P wl hr t nn dfig dcell dhrs ld with
      | false => rfl
      | true =>
        have := allB_iff.mp hq k hk
        rw [hs] at this
        cases this
    | true =>
      refine zi_f (by decide) ?_
      refine zi_beq (c_isDull hP.2.2.2.2.2.1 (by omega)) ?_
      refine zi_bind (zwp_mono (c_passHour hP (by omega) hl hw (sRun_ok hP ht k).1) ?_)
      rintro ⟨q1, q2, q3, q4, q5, q6, q7⟩ ⟨g1, g2, g3, g4⟩
      dsimp only at g1 g2 g3 g4
      subst g1 g2 g3 g4
      refine zwi ⟨_, _, _, by rw [nI_1]; rfl, fun i hi => ?_⟩
      by_cases e : i = k
      · rw [e]; exact hs
      · exact ha i (by omega)
  · rintro _ ⟨v, g, h, rfl, ha⟩
    exact zi_t (by decide) (zwi (allB_iff.mpr ha))
  · rintro ⟨y1, y2, y3, y4, y5, y6, y7⟩ h
    exact zwi (by rw [h]; rfl)
theorem c_addPlaces {P : Pl} (hP : plOk P) {wl hr : Nat} {ld : Nat → Nat} {t : Tn} {lead vals gst hst : Nat → Int32} {pl : Nat → Int64} (hh : hr < 2 ^ 27) (hl : ∀ f, f < qF P → lead f = nI (ld f) ∧ ld f < 2 ^ 30) (hw : wl < 2 ^ 63) (ht : tOk P t) : zwp (f_X1_addPlaces vals pl (qDb P) (nI (qF P)) (qGc P) (nI (qGn P)) gst (nI (qH P)) (qHc P) (nI (qHn P)) hst (qLt P) (nI (qNl P)) (qSt P) (qWy P) (nI (qW P)) t.1 (nI (qF P)) t.2.2 (nI hr) lead t.2.1 (lN wl)) (fun r => ∀ j, j < qF P → r.2.1 j = pl j ||| ((1 : Int64) <<< (((sRun P wl ld hr t 5).1 j).toInt64 &&& 63))) := by
  have hF := hP.2.2.2.2.1
  unfold f_X1_addPlaces
  refine zi_bind (zwp_mono (c_passHours hP (n := 5) (by omega) (by omega) hl hw ht) ?_)
  rintro ⟨q1, q2, q3, q4, q5, q6, q7⟩ ⟨g1, g2, g3, g4⟩
  dsimp only at g1 g2 g3 g4
  subst g1 g2 g3 g4
  dsimp only
  generalize (sRun P wl ld hr t 5).1 = cl
  refine zl_bind (P := fun k a => ∃ r, a = (nI k, r) ∧ (∀ j, k ≤ j → r j = pl j) ∧ ∀ j, j < k → r j = pl j ||| ((1 : Int64) <<< ((cl j).toInt64 &&& 63))) (Post := fun r => ∀ j, j < qF P → r j = pl j ||| ((1 : Int64) <<< ((cl j).toInt64 &&& 63))) (qF P) (by omega) ⟨_, rfl, fun _ _ => rfl, fun j hj => by omega⟩ ?_ ?_ ?_
  · rintro k hk _ ⟨r, rfl, h0, h1⟩
    refine zi_f (nI_ge hk (by omega)) ?_
    dsimp only
    rw [zbnd_nI (by omega) (by decide), zbnd_nI (by omega) (by decide), zbnd_nI (by omega) (by decide), nI_clamp (show k < 2 ^ 31 by omega), nI_1, h0 k (Nat.le_refl _)]
    refine zwi ⟨_, rfl, fun j hj => ?_, fun j hj => ?_⟩
    · rw [pk_uLn (show j ≠ k by omega)]; exact h0 j (by omega)
    · by_cases q : j = k
      · subst q; rw [pk_uLs]
      · rw [pk_uLn q]; exact h1 j (by omega)
  · rintro _ ⟨r, rfl, h0, h1⟩
    exact zi_t (nI_le (Nat.le_refl _) (by omega)) (zwi h1)
  · intro r h; exact zwi h
/-- the first of so many -/
def fsA (p : Nat → Bool) : Nat → Int32
  | 0 => -1
  | n + 1 => if fb_ct p n = 0 ∧ p n = true then nI n else fsA p n
theorem fsA_f {p : Nat → Bool} {n : Nat} (h : p n = false) : fsA p (n + 1) = fsA p n := if_neg (by rw [h]; intro q; cases q.2)
theorem fsA_0 {p : Nat → Bool} {n : Nat} (h : p n = true) (h0 : fb_ct p n = 0) : fsA p (n + 1) = nI n := if_pos ⟨h0, h⟩
theorem fsA_1 {p : Nat → Bool} {n : Nat} (h0 : ¬ fb_ct p n = 0) : fsA p (n + 1) = fsA p n := if_neg (fun q => h0 q.1)
theorem fsA_m1 {p : Nat → Bool} : ∀ {n : Nat}, n < 2 ^ 31 → (fsA p n = -1 ↔ fb_ct p n = 0)
  | 0, _ => ⟨fun _ => rfl, fun _ => rfl⟩
  | n + 1, hn => by
    have ih := fsA_m1 (p := p) (n := n) (by omega)
    cases h : p n with
    | false => rw [fsA_f h, fb_ct_succ, if_neg (by rw [h]; decide), Nat.add_zero]; exact ih
    | true =>
      rw [fb_ct_succ, if_pos h]
      by_cases h0 : fb_ct p n = 0
      · rw [fsA_0 h h0]
        exact ⟨fun e => absurd e (nI_nm2 (by omega)), fun e => by omega⟩
      · rw [fsA_1 h0]
        exact ⟨fun e => absurd (ih.mp e) h0, fun e => by omega⟩
/-- where all would be behind five hours, by guesses -/
noncomputable def c5 (P : Pl) (wl hr : Nat) (t : Tn) (g : Nat) : Nat → Int32 := (sRun P wl (ldG g) hr t 5).1
def gAt (p : Nat → Bool) (c : Nat → Nat → Int32) (j : Nat) : Nat → Nat → Bool := fun n k => anyB (fun g => p g && (c g j == nI k)) n
def PlR (p : Nat → Bool) (c : Nat → Nat → Int32) (F n : Nat) (pl : Nat → Int64) : Prop := ∀ j, j < F → ∃ S, pl j = lN S ∧ S < 2 ^ 36 ∧ ∀ k, k < 36 → S.testBit k = gAt p c j n k
theorem ct_skip {p : Nat → Bool} {n : Nat} : ∀ d, (∀ g, n ≤ g → g < n + d → p g = false) → fb_ct p (n + d) = fb_ct p n ∧ fsA p (n + d) = fsA p n ∧ ∀ (c : Nat → Nat → Int32) j k, gAt p c j (n + d) k = gAt p c j n k
  | 0, _ => ⟨rfl, rfl, fun _ _ _ => rfl⟩
  | d + 1, h => by
    obtain ⟨h1, h2, h3⟩ := ct_skip (p := p) (n := n) d (fun g g1 g2 => h g g1 (by omega))
    have hp := h (n + d) (by omega) (by omega)
    refine ⟨?_, ?_, fun c j k => ?_⟩
    · show fb_ct p (n + d) + (if p (n + d) then 1 else 0) = _
      rw [if_neg (by rw [hp]; decide), h1]; rfl
    · show fsA p (n + d + 1) = _
      rw [fsA_f hp, h2]
    · show (gAt p c j (n + d) k || (p (n + d) && _)) = _
      rw [hp, h3]; simp
theorem PlR_skip {p : Nat → Bool} {c : Nat → Nat → Int32} {F n d : Nat} {pl : Nat → Int64} (h : ∀ g, n ≤ g → g < n + d → p g = false) (hp : PlR p c F n pl) : PlR p c F (n + d) pl := fun j hj => by
  obtain ⟨S, h1, h2, h3⟩ := hp j hj
  exact ⟨S, h1, h2, fun k hk => by rw [(ct_skip d h).2.2 c j k]; exact h3 k hk⟩
