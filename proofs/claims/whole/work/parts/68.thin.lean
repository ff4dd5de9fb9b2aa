/-! TO THIN -/
/-- whom each has met in the first so many hours -/
def sMet (cl : Nat → Nat → Int32) (F : Nat) : Nat → Nat → Int32
  | 0 => fun _ => 0
  | k + 1 => fun f => sMet cl F k f ||| (nI (bts (fun g => cl k g == cl k f) F) &&& (((1 : Int32) <<< (nI f &&& 31)) ^^^ (-1)))
def nmB (met : Nat → Int32) (u f : Nat) : Bool := u.testBit f || (met f &&& (nI u ^^^ (-1)) == 0)
def nmA (met : Nat → Int32) (F u : Nat) : Bool := allB (nmB met u) F
theorem nmA_cg {m1 m2 : Nat → Int32} {F u : Nat} (h : ∀ f, f < F → m1 f = m2 f) : nmA m1 F u = nmA m2 F u := by
  unfold nmA
  rw [Bool.eq_iff_iff, allB_iff, allB_iff]
  constructor
  · intro q f hf
    have := q f hf
    unfold nmB at this ⊢
    rw [← h f hf]; exact this
  · intro q f hf
    have := q f hf
    unfold nmB at this ⊢
    rw [h f hf]; exact this
def ctB (u : Nat) : Nat := fb_ct u.testBit 8
/-- the least of the least sets -/
def bA (p : Nat → Bool) : Nat → Option Nat
  | 0 => none
  | k + 1 => if p k then (match bA p k with
    | none => some k
    | some b => if ctB k < ctB b then some k else some b) else bA p k
theorem bA_f {p : Nat → Bool} {k : Nat} (h : p k = false) : bA p (k + 1) = bA p k := if_neg (by rw [h]; decide)
theorem bA_n {p : Nat → Bool} {k : Nat} (h : p k = true) (e : bA p k = none) : bA p (k + 1) = some k := by
  show (if p k then _ else _) = _
  rw [if_pos h, e]
theorem bA_s {p : Nat → Bool} {k b : Nat} (h : p k = true) (e : bA p k = some b) : bA p (k + 1) = if ctB k < ctB b then some k else some b := by
  show (if p k then _ else _) = _
  rw [if_pos h, e]
theorem bA_ok {p : Nat → Bool} : ∀ n, (bA p n = none ∧ ∀ u, u < n → p u = false) ∨ ∃ b, bA p n = some b ∧ b < n ∧ p b = true ∧ ∀ u, u < n → p u = true → ctB b < ctB u ∨ (ctB b = ctB u ∧ b ≤ u)
  | 0 => .inl ⟨rfl, fun u hu => by omega⟩
  | n + 1 => by
    rcases bA_ok (p := p) n with ⟨e, h⟩ | ⟨b, e, h1, h2, h3⟩
    · cases hp : p n with
      | false =>
        refine .inl ⟨(bA_f hp).trans e, fun u hu => ?_⟩
        by_cases q : u = n
        · rw [q]; exact hp
        · exact h u (by omega)
      | true =>
        refine .inr ⟨n, bA_n hp e, by omega, hp, fun u hu hpu => ?_⟩
        by_cases q : u = n
        · rw [q]; exact .inr ⟨rfl, Nat.le_refl _⟩
        · rw [h u (by omega)] at hpu; cases hpu
    · cases hp : p n with
      | false =>
        refine .inr ⟨b, (bA_f hp).trans e, by omega, h2, fun u hu hpu => ?_⟩
        by_cases q : u = n
        · rw [q, hp] at hpu; cases hpu
        · exact h3 u (by omega) hpu
      | true =>
        by_cases q : ctB n < ctB b
        · refine .inr ⟨n, (bA_s hp e).trans (if_pos q), by omega, hp, fun u hu hpu => ?_⟩
          by_cases q2 : u = n
          · rw [q2]; exact .inr ⟨rfl, Nat.le_refl _⟩
          · have := h3 u (by omega) hpu
            exact .inl (by omega)
        · refine .inr ⟨b, (bA_s hp e).trans (if_neg q), by omega, h2, fun u hu hpu => ?_⟩
          by_cases q2 : u = n
          · rw [q2]
            by_cases q3 : ctB b = ctB n
            · exact .inr ⟨q3, by omega⟩
            · exact .inl (by omega)
          · exact h3 u (by omega) hpu
theorem bA_eq {p : Nat → Bool} {N w : Nat} (hw : w < N) (hp : p w = true) (h : ∀ u, u < N → p u = true → ctB w < ctB u ∨ (ctB w = ctB u ∧ w ≤ u)) : enc (bA p N) = nI w := by
  rcases bA_ok (p := p) N with ⟨e, h0⟩ | ⟨b, e, h1, h2, h3⟩
  · rw [h0 w hw] at hp; cases hp
  · rw [e]
    have a1 := h b h1 h2
    have a2 := h3 w hw hp
    have : b = w := by omega
    rw [this]; rfl
theorem bA_lt {p : Nat → Bool} {n b : Nat} (e : bA p n = some b) : b < n := by
  rcases bA_ok (p := p) n with ⟨e2, _⟩ | ⟨c, e2, h1, _⟩
  · rw [e] at e2; cases e2
  · rw [e] at e2; injection e2 with e2; omega
theorem full_bit {F f : Nat} (hf : f < F) : (2 ^ F - 1).testBit f = true := by rw [Nat.testBit_two_pow_sub_one]; simpa using hf
theorem c_addMeetings {F : Nat} {cell met : Nat → Int32} (hF : F ≤ 8) : zwp (f_X11_addMeetings cell (nI F) met (nI F)) (fun r => ∀ f, f < F → r f = met f ||| (nI (bts (fun g => cell g == cell f) F) &&& (((1 : Int32) <<< (nI f &&& 31)) ^^^ (-1)))) := by
  unfold f_X11_addMeetings
  refine zl_bind (P := fun k a => ∃ r, a = (nI k, r) ∧ (∀ f, k ≤ f → r f = met f) ∧ ∀ f, f < k → r f = met f ||| (nI (bts (fun g => cell g == cell f) F) &&& (((1 : Int32) <<< (nI f &&& 31)) ^^^ (-1)))) (Post := fun r => ∀ f, f < F → r f = met f ||| (nI (bts (fun g => cell g == cell f) F) &&& (((1 : Int32) <<< (nI f &&& 31)) ^^^ (-1)))) F (by omega) ⟨_, rfl, fun f _ => rfl, fun f hf => by omega⟩ ?_ ?_ ?_
  · rintro k hk _ ⟨r, rfl, h0, h⟩
    refine zi_f (nI_ge hk (by omega)) ?_
    rw [zbnd_nI (by omega) (by decide), zbnd_nI (by omega) (by decide), nI_clamp (show k < 2 ^ 31 by omega)]
    refine zi_beq (c_figuresAt hF) ?_
    rw [zbnd_nI (by omega) (by decide), nI_1, h0 k (Nat.le_refl _)]
    refine zwi ⟨_, rfl, fun f hf => ?_, fun f hf => ?_⟩
    · rw [pk_un (show f ≠ k by omega)]; exact h0 f (by omega)
    · by_cases q : f = k
      · subst q; rw [pk_us]
      · rw [pk_un q]; exact h f (by omega)
  · rintro _ ⟨r, rfl, h0, h⟩
    exact zi_t (nI_le (Nat.le_refl _) (by omega)) (zwi h)
  · intro r h; exact zwi h
theorem c_noneMeets {F u : Nat} {met : Nat → Int32} (hF : F ≤ 8) (hu : u < 256) : zwp (f_X11_noneMeets (nI u) met (nI F)) (fun r => r = b2 (nmA met F u)) := by
  unfold f_X11_noneMeets
  refine zl_bs (P := fun k a => a = nI k ∧ ∀ f, f < k → nmB met u f = true) (Post := fun _ => ∀ f, f < F → nmB met u f = true) F (by omega) ⟨rfl, fun f hf => by omega⟩ ?_ ?_ ?_
  · rintro k hk _ ⟨rfl, h⟩
    refine zi_f (nI_ge hk (by omega)) ?_
    rw [bit_sh u hu k (by omega)]
    cases hb : u.testBit k with
    | true =>
      refine zi_f (by decide) (zwi ⟨by rw [nI_1], fun f hf => ?_⟩)
      by_cases q : f = k
      · rw [q]; unfold nmB; rw [hb]; rfl
      · exact h f (by omega)
    | false =>
      refine zi_t rfl ?_
      rw [zbnd_nI (by omega) (by decide), nI_clamp (show k < 2 ^ 31 by omega)]
      refine zi_c (fun q => zwi ⟨by rw [nI_1], fun f hf => ?_⟩) (fun q => zwi ?_)
      · by_cases q2 : f = k
        · rw [q2]; unfold nmB; rw [hb, q, beq_self_eq_true]; rfl
        · exact h f (by omega)
      · show (0 : Int32) = b2 (nmA met F u)
        cases hn : nmA met F u with
        | false => rfl
        | true =>
          have := allB_iff.mp hn k hk
          unfold nmB at this
          rw [hb, beq_false_of_ne q] at this
          cases this
  · rintro _ ⟨rfl, h⟩
    exact zi_t (nI_le (Nat.le_refl _) (by omega)) (zwi h)
  · intro _ h
    refine zwi ?_
    rw [show nmA met F u = true from allB_iff.mpr h]; rfl
theorem c_toThin {P : Pl} (hP : plOk P) {hr pn wl : Nat} {ncell nsore nheld nlead fcell fsore fheld flead vals gst hst : Nat → Int32} {ffig fhr fpn : Int32} {fwl : Int64} {rows : Nat → Int32} (hN : NowR P hr pn wl ncell nsore nheld nlead rows) {met : Nat → Int32} {a1 : Int32} : zwp (f_X11_toThin a1 fcell ffig fheld fhr flead fpn fsore fwl met vals ncell (nI (qF P)) nheld (nI hr) nlead (nI pn) nsore (lN wl) (qDb P) (nI (qF P)) (qGc P) (nI (qGn P)) gst (nI (qH P)) (qHc P) (nI (qHn P)) hst (qLt P) (nI (qNl P)) (qSt P) (qWy P) (nI (qW P))) (fun r => r.1 = toI (cond (inR 0 60 a1) (some (enc (bA (nmA (sMet (fun k => (sRun P wl (fun _ => 0) hr (tCp ncell nsore nheld fcell fsore fheld) k).1) (qF P) (a1.toNatClampNeg + 1)) (qF P)) (2 ^ qF P)))) none)) := by
  have hF := hP.2.2.2.2.1
  have hWH := hP.wh
  unfold f_X11_toThin
  refine zi_beq (c_checkHours (lo := 0) (hi := 60) (by decide) (by decide)) ?_
  cases hc0 : inR 0 60 a1 with
  | false => exact zwi rfl
  | true =>
    obtain ⟨n, _, hn, rfl⟩ := inR_t hc0
    rw [nI_clamp (show n < 2 ^ 31 by omega)]
    dsimp only
    refine zi_bind (zwp_mono (c_fillN (by decide)) ?_)
    intro o2 h2
    refine zi_bind (zwp_mono (c_foresee hP (n := 0) (by omega) (by have := hN.2.2.1; omega) hN.2.2.2.2.2.2.2.2 (hN.wl63 hP) hN.tk) ?_)
    rintro ⟨o3, o4, o5, o6, o7, o8, o9, o10, o11, o12, o13⟩ ⟨e1, e2, e3, e4, e5, e6, e7⟩
    dsimp only at e1 e2 e3 e4 e5 e6 e7
    subst e1 e2 e3 e4 e6 e7
    refine zi_bind (zwp_mono (c_addMeetings hF) ?_)
    intro o14 h14
    have h14' : ∀ f, f < qF P → o14 f = (sMet (fun k => (sRun P wl (fun _ => 0) hr (tCp ncell nsore nheld fcell fsore fheld) k).1) (qF P) (0 + 1)) f := fun f hf => by rw [h14 f hf, h2 f (by omega)]; rfl
    refine zl_bind (P := fun k a => ∃ m v g h, a = (nI (k + 1), (sRun P wl (fun _ => 0) hr (tCp ncell nsore nheld fcell fsore fheld) k).1, (sRun P wl (fun _ => 0) hr (tCp ncell nsore nheld fcell fsore fheld) k).2.2, nI (hr + k), (sRun P wl (fun _ => 0) hr (tCp ncell nsore nheld fcell fsore fheld) k).2.1, m, v, g, h) ∧ ∀ f, f < qF P → m f = (sMet (fun i => (sRun P wl (fun _ => 0) hr (tCp ncell nsore nheld fcell fsore fheld) i).1) (qF P) (k + 1)) f) (Post := fun b => ∀ f, f < qF P → b.2.2.2.2.1 f = (sMet (fun k => (sRun P wl (fun _ => 0) hr (tCp ncell nsore nheld fcell fsore fheld) k).1) (qF P) (n + 1)) f) n (by omega) ⟨_, _, _, _, rfl, h14'⟩ ?_ ?_ ?_
    · rintro k hk _ ⟨m, v, g, h, rfl, hm⟩
      refine zi_f (nI_nlt (by omega) (by omega)) ?_
      refine zi_bind (zwp_mono (c_futK hP (ld := fun _ => 0) (by have := hN.2.2.1; omega) (fun f hf => ⟨e5 f hf, by omega⟩) (hN.wl63 hP) (tCp_ok hP hN.tk)) ?_)
      rintro ⟨q1, q2, q3, q4, q5, q6, q7⟩ ⟨g1, g2, g3, g4⟩
      dsimp only at g1 g2 g3 g4
      subst g1 g2 g3 g4
      refine zi_bind (zwp_mono (c_addMeetings hF) ?_)
      intro o47 h47
      dsimp only at h47
      exact zwi ⟨_, _, _, _, by rw [nI_1], fun f hf => by rw [h47 f hf, hm f hf]; rfl⟩
    · rintro _ ⟨m, v, g, h, rfl, hm⟩
      exact zi_t (nI_lt (by omega) (by omega)) (zwi hm)
    · rintro ⟨y25, y26, y27, y28, y29, y30, y31, y32⟩ hm
      dsimp only at hm ⊢
      generalize (sMet (fun k => (sRun P wl (fun _ => 0) hr (tCp ncell nsore nheld fcell fsore fheld) k).1) (qF P) (n + 1)) = M at hm
      obtain ⟨N, hN2⟩ : ∃ N, N = 2 ^ qF P := ⟨_, rfl⟩
      have hN256 : N ≤ 256 := by rw [hN2]; exact two8 hF
      have hNp : 0 < N := by rw [hN2]; exact Nat.two_pow_pos _
      have hfull : nmA M (qF P) (N - 1) = true := allB_iff.mpr (fun f hf => by unfold nmB; rw [hN2, full_bit hf]; rfl)
      rw [one_shl (qF P) (by omega), ← hN2, nI_m1 N hNp]
      refine zl_bind (P := fun k a => ∃ w, a = (nI w, nI (N - k) - 1) ∧ w < N ∧ nmA M (qF P) w = true ∧ ∀ u, N - k ≤ u → u < N → nmA M (qF P) u = true → ctB w < ctB u ∨ (ctB w = ctB u ∧ w ≤ u)) (Post := fun b => b = enc (bA (nmA M (qF P)) N)) N (by omega) ⟨N - 1, by rw [Nat.sub_zero, nI_m1 N hNp], by omega, hfull, fun u h1 h2 => by omega⟩ ?_ ?_ ?_
      · rintro k hk _ ⟨w, rfl, hw, hpw, hall⟩
        obtain ⟨u, hu⟩ : ∃ u, u = N - k - 1 := ⟨_, rfl⟩
        rw [nI_m1 _ (show 0 < N - k by omega), ← hu]
        refine zi_f (nI_pos (by omega)) ?_
        refine zi_beq (j_bits u (by omega)) ?_
        refine zi_beq (j_bits w (by omega)) ?_
        have hcu : ctB u ≤ 8 := fb_ct_le _ _
        have hcw : ctB w ≤ 8 := fb_ct_le _ _
        by_cases q : ctB w < ctB u
        · refine zi_t (nI_lt (b := ctB u) q (by omega)) (zwi ⟨w, by rw [m1_eq, show N - (k + 1) = u by omega], hw, hpw, fun x h1 h2 hx => ?_⟩)
          by_cases q2 : x = u
          · rw [q2]; exact .inl q
          · exact hall x (by omega) h2 hx
        · refine zi_f (nI_nlt (a := ctB w) (b := ctB u) (by omega) (by omega)) ?_
          refine zi_bind (zwp_mono (c_noneMeets hF (by omega)) ?_)
          intro r39 e
          rw [nmA_cg hm] at e
          cases hpu : nmA M (qF P) u with
          | false =>
            rw [hpu] at e
            refine zi_t e (zwi ⟨w, by rw [m1_eq, show N - (k + 1) = u by omega], hw, hpw, fun x h1 h2 hx => ?_⟩)
            by_cases q2 : x = u
            · rw [q2, hpu] at hx; cases hx
            · exact hall x (by omega) h2 hx
          | true =>
            rw [hpu] at e
            refine zi_f (by rw [e]; decide) (zwi ⟨u, by rw [m1_eq, show N - (k + 1) = u by omega], by omega, hpu, fun x h1 h2 hx => ?_⟩)
            by_cases q2 : x = u
            · rw [q2]; exact .inr ⟨rfl, Nat.le_refl _⟩
            · have := hall x (by omega) h2 hx
              by_cases q3 : ctB u = ctB x
              · exact .inr ⟨q3, by omega⟩
              · exact .inl (by omega)
      · rintro _ ⟨w, rfl, hw, hpw, hall⟩
        exact zi_t (by rw [Nat.sub_self]; exact m1_neg) (zwi (bA_eq hw hpw (fun u h1 h2 => hall u (by omega) h1 h2)).symm)
      · intro b e
        refine zwi ?_
        rw [e]; rfl
theorem m_toThin {P : Pl} (hP : plOk P) {hr pn wl : Nat} {ncell nsore nheld nlead fcell fsore fheld : Nat → Int32} {mwl mways mlight mcode rows mtold mpile : Nat → Int32} {mga mha mthr : Int32} (hm : mPl P mwl mways mlight mcode mga mha) (hN : NowR P hr pn wl ncell nsore nheld nlead rows) {mmeets : Nat → Int32} {a1 : Int32} : zwp (f_X12_toThin a1 mcode (qDb P) (-1 : Int32) (nI (qF P)) mga mha mlight (nI (qNl P)) mmeets mpile rows (nI (qH P)) mthr mtold mwl mways (nI (qW P))) (fun r => r.1 = toW (cond (inR 0 60 a1) (some (enc (bA (nmA (sMet (fun k => (sRun P wl (fun _ => 0) hr (tCp ncell nsore nheld fcell fsore fheld) k).1) (qF P) (a1.toNatClampNeg + 1)) (qF P)) (2 ^ qF P)))) none) ∧ r.2.2.2.2.1 = toU (cond (inR 0 60 a1) (some (enc (bA (nmA (sMet (fun k => (sRun P wl (fun _ => 0) hr (tCp ncell nsore nheld fcell fsore fheld) k).1) (qF P) (a1.toNatClampNeg + 1)) (qF P)) (2 ^ qF P)))) none) ∧ ∀ k, k < 70 → r.2.2.2.1 k = rows k) := by
  have hF := hP.2.2.2.2.1
  have hWH := hP.wh
  unfold f_X12_toThin
  refine zi_beq (m_within (lo := 0) (hi := 60) (by decide) (by decide)) ?_
  refine zi_beq (m_right0 (by decide)) ?_
  cases hc0 : inR 0 60 a1 with
  | false => exact zi_t rfl (zwi ⟨rfl, rfl, fun _ _ => rfl⟩)
  | true =>
    refine zi_f (by decide) ?_
    obtain ⟨n, _, hn, rfl⟩ := inR_t hc0
    rw [nI_clamp (show n < 2 ^ 31 by omega)]
    refine zl_bind (P := fun k a => ∃ r, a = (nI k, r) ∧ ∀ j, j < k → r j = 0) (Post := fun r => ∀ j, j < 8 → r j = 0) 8 (by decide) ⟨_, rfl, fun j hj => by omega⟩ ?_ ?_ ?_
    · rintro k hk _ ⟨r, rfl, h⟩
      refine zi_f (by rw [show (8 : Int32) = nI 8 from rfl]; exact nI_ge hk (by decide)) ?_
      rw [zbnd_nI (by omega) (by decide), nI_clamp (by omega), nI_1]
      refine zwi ⟨_, rfl, fun j hj => ?_⟩
      by_cases q : j = k
      · subst q; rw [pk_us]
      · rw [pk_un q]; exact h j (by omega)
    · rintro _ ⟨r, rfl, h⟩
      exact zi_t (show (8 : Int32) ≤ nI 8 by decide) (zwi h)
    intro y7 h7
    refine zi_bind (zwp_mono m_tries ?_)
    intro r0 ⟨t1, t2⟩
    have hR0 := rRow_tcp hP (fcell := fcell) (fsore := fsore) (fheld := fheld) hN.1 t2
    refine zl_bind (P := fun k a => ∃ m p r t, a = (nI k, m, p, r, t) ∧ (∀ f, f < qF P → m f = (sMet (fun i => (sRun P wl (fun _ => 0) hr (tCp ncell nsore nheld fcell fsore fheld) i).1) (qF P) k) f) ∧ rRow (qF P) 70 r (hr + k) (sRun P wl (fun _ => 0) hr (tCp ncell nsore nheld fcell fsore fheld) k).1 (sRun P wl (fun _ => 0) hr (tCp ncell nsore nheld fcell fsore fheld) k).2.1 (sRun P wl (fun _ => 0) hr (tCp ncell nsore nheld fcell fsore fheld) k).2.2 (fun _ => 0) wl ∧ ∀ j, j < 70 → r j = rows j) (Post := fun b => (∀ f, f < qF P → b.1 f = (sMet (fun k => (sRun P wl (fun _ => 0) hr (tCp ncell nsore nheld fcell fsore fheld) k).1) (qF P) (n + 1)) f) ∧ ∀ j, j < 70 → b.2.2.1 j = rows j) (n + 1) (by omega) ⟨_, _, _, _, rfl, fun f hf => h7 f (by omega), hR0, t1⟩ ?_ ?_ ?_
    · rintro k hk _ ⟨m, p, r, t, rfl, hmm, h1, h2⟩
      refine zi_f (nI_nlt (by omega) (by omega)) ?_
      refine zl_bind (P := fun i a => ∃ r, a = (nI i, r) ∧ (∀ f, i ≤ f → r f = m f) ∧ ∀ f, f < i → r f = m f ||| (nI (bts (fun g => (sRun P wl (fun _ => 0) hr (tCp ncell nsore nheld fcell fsore fheld) k).1 g == (sRun P wl (fun _ => 0) hr (tCp ncell nsore nheld fcell fsore fheld) k).1 f) (qF P)) &&& (((1 : Int32) <<< (nI f &&& 31)) ^^^ (-1)))) (Post := fun r => ∀ f, f < qF P → r f = m f ||| (nI (bts (fun g => (sRun P wl (fun _ => 0) hr (tCp ncell nsore nheld fcell fsore fheld) k).1 g == (sRun P wl (fun _ => 0) hr (tCp ncell nsore nheld fcell fsore fheld) k).1 f) (qF P)) &&& (((1 : Int32) <<< (nI f &&& 31)) ^^^ (-1)))) (qF P) (by omega) ⟨_, rfl, fun f _ => rfl, fun f hf => by omega⟩ ?_ ?_ ?_
      · rintro i hi _ ⟨r', rfl, g0, g⟩
        refine zi_f (nI_ge hi (by omega)) ?_
        rw [zbnd_nI (by omega) (by decide), ix71, zbnd_nI (by omega) (by decide), nI_clamp (show 70 + 1 + i < 2 ^ 31 by omega), nI_clamp (show i < 2 ^ 31 by omega), h1.2.1 i hi]
        refine zi_beq (m_atCell (b := 70) hF (Nat.le_refl _) h1.2.1) ?_
        rw [zbnd_nI (by omega) (by decide), nI_1, g0 i (Nat.le_refl _)]
        refine zwi ⟨_, rfl, fun f hf => ?_, fun f hf => ?_⟩
        · rw [pk_un (show f ≠ i by omega)]; exact g0 f (by omega)
        · by_cases q : f = i
          · subst q; rw [pk_us]
          · rw [pk_un q]; exact g f (by omega)
      · rintro _ ⟨r', rfl, g0, g⟩
        exact zi_t (nI_le (Nat.le_refl _) (by omega)) (zwi g)
      intro y39 h39
      refine zi_bind (zwp_mono (m_hourK hP hm h1 (by have := hN.2.2.1; omega) (fun f _ => by omega) (tCp_ok hP hN.tk)) ?_)
      rintro ⟨q1, q2, q3⟩ ⟨g1, g2⟩
      dsimp only at g1 g2
      exact zwi ⟨_, _, _, _, by rw [nI_1], fun f hf => by rw [h39 f hf, hmm f hf]; rfl, g1, fun j hj => (g2 j hj).trans (h2 j hj)⟩
    · rintro _ ⟨m, p, r, t, rfl, hmm, h1, h2⟩
      exact zi_t (nI_lt (by omega) (by omega)) (zwi ⟨hmm, h2⟩)
    rintro ⟨y17, y18, y19, y20⟩ ⟨hm17, hfr⟩
    dsimp only at hm17 hfr ⊢
    generalize (sMet (fun k => (sRun P wl (fun _ => 0) hr (tCp ncell nsore nheld fcell fsore fheld) k).1) (qF P) (n + 1)) = M at hm17
    obtain ⟨N, hN2⟩ : ∃ N, N = 2 ^ qF P := ⟨_, rfl⟩
    have hN256 : N ≤ 256 := by rw [hN2]; exact two8 hF
    rw [one_shl (qF P) (by omega), ← hN2]
    refine zl_bind (P := fun k a => a = (enc (bA (nmA M (qF P)) k), nI k)) (Post := fun b => b = enc (bA (nmA M (qF P)) N)) N (by omega) rfl ?_ ?_ ?_
    · rintro u hu _ rfl
      refine zi_f (nI_ge hu (by omega)) ?_
      refine zl_bind (P := fun i a => a = (b2 (allB (nmB M u) i), nI i)) (Post := fun b => b = b2 (nmA M (qF P) u)) (qF P) (by omega) rfl ?_ ?_ ?_
      · rintro i hi _ rfl
        refine zi_f (nI_ge hi (by omega)) ?_
        dsimp only
        refine zi_bind (zwp_mono (Q := fun v => v = b2 (allB (nmB M u) (i + 1))) ?_ ?_)
        · cases hb : allB (nmB M u) i with
          | false =>
            refine zi_t rfl (zwi ?_)
            show (0 : Int32) = b2 (allB (nmB M u) i && nmB M u i)
            rw [hb]; rfl
          | true =>
            refine zi_f (by decide) ?_
            rw [show allB (nmB M u) (i + 1) = (allB (nmB M u) i && nmB M u i) from rfl, hb, Bool.true_and]
            unfold nmB
            rw [bit_sh u (by omega) i (by omega)]
            cases hb : u.testBit i with
            | true => exact zi_t rfl (zwi rfl)
            | false =>
              refine zi_f (by decide) ?_
              rw [zbnd_nI (by omega) (by decide), nI_clamp (show i < 2 ^ 31 by omega), hm17 i hi]
              refine zi_c (fun q => zwi ?_) (fun q => zwi ?_)
              · rw [q, beq_self_eq_true]; rfl
              · rw [beq_false_of_ne q]; rfl
        · intro v e
          subst e
          exact zwi (by rw [nI_1]; rfl)
      · rintro _ rfl
        exact zi_t (nI_le (Nat.le_refl _) (by omega)) (zwi rfl)
      intro y31 e
      subst e
      cases hp : nmA M (qF P) u with
      | false =>
        refine zi_t rfl (zwi ?_)
        show (_, _) = (_, _)
        rw [bA_f hp, nI_1]
      | true =>
        refine zi_f (by decide) ?_
        cases hb : bA (nmA M (qF P)) u with
        | none =>
          refine zi_t rfl (zwi ?_)
          show (_, _) = (_, _)
          rw [bA_n hp hb, nI_1]; rfl
        | some b =>
          have hbu := bA_lt hb
          refine zi_f (nI_nm2 (by omega)) ?_
          refine zi_beq (m_bits (by omega)) ?_
          refine zi_beq (m_bits (v := b) (by omega)) ?_
          have hcu : ctB u ≤ 8 := fb_ct_le _ _
          have hcw : ctB b ≤ 8 := fb_ct_le _ _
          by_cases q : ctB u < ctB b
          · refine zi_f (nI_ge (b := ctB b) q (by omega)) (zwi ?_)
            show (_, _) = (_, _)
            rw [bA_s hp hb, if_pos q, nI_1]; rfl
          · refine zi_t (nI_le (a := ctB b) (b := ctB u) (by omega) (by omega)) (zwi ?_)
            show (_, _) = (_, _)
            rw [bA_s hp hb, if_neg q, nI_1]
    · rintro _ rfl
      exact zi_t (nI_le (Nat.le_refl _) (by omega)) (zwi rfl)
    · intro b e
      refine zwi ⟨?_, rfl, hfr⟩
      rw [e]; rfl
