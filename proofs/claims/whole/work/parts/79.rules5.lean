/-! READING RULES: the reference -/
def opX (x : Int32) : Int32 := if x = -20 then 14 else opm x
theorem opX_op {x : Int32} (h : isOp x) : opX x = opm x := by
  unfold opX
  rw [if_neg]
  rcases h with q | q | q | q | q | q | q | q | q <;> rw [q] <;> decide
theorem m_open {x : Int32} (h : isW x) : f_X12_isOpen (opX x) = some (b2 (decide (x = -20))) := by
  rcases h with (q | q | q | q | q | q | q | q | q) | q <;> rw [q] <;> decide
theorem m_strength {x : Int32} (h : isOp x) : f_X12_strength (opX x) = some (nI (rkN x)) := by
  rcases h with q | q | q | q | q | q | q | q | q <;> rw [q] <;> decide
def MTok (b : Nat → Int32) (n p : Nat) (l0 nx pl sg so va : Int32) (wd : Int64) : Prop := l0 = nI (tE b n p - p) ∧ nx = nI (tE b n p) ∧ pl = nI p ∧ sg = (if p < n then b p else 0) ∧ so = nI (tK b n p) ∧ va = (if tK b n p = 2 then nvI b p (min (tE b n p - p) 4) else 0) ∧ wd = (if tK b n p = 1 then wdI b p (min (tE b n p - p) 6) else 0)
theorem m_gs {b tape : Nat → Int32} {n p : Nat} {l0 nx pl sg so va : Int32} {wd : Int64} (hn : n ≤ 700) (hp : p ≤ n) (ht : ∀ k, k < n → tape k = b k) (h : nx = nI (tE b n p)) : zwp (f_X12_goes l0 (nI n) nx pl sg so tape va wd) (fun r => MTok b n (nxP b n p) r.1 r.2.1 r.2.2.1 r.2.2.2.1 r.2.2.2.2.1 r.2.2.2.2.2.1 r.2.2.2.2.2.2) := by
  rw [h]
  refine zwp_mono (m_goes hn (tE_le hp).2.1 ht) ?_
  rintro _ rfl
  exact ⟨rfl, rfl, rfl, rfl, rfl, rfl, rfl⟩
theorem m_sign {b : Nat → Int32} {n p : Nat} {c sg so : Int32} (h1 : sg = (if p < n then b p else 0)) (h2 : so = nI (tK b n p)) : f_X12_isSign c sg so = some (b2 (sgI b n p c)) := by
  have hk := tK_le (b := b) (n := n) (p := p)
  unfold f_X12_isSign sgI
  rw [h2]
  by_cases h : tK b n p = 3
  · have hp := tK_pos (b := b) (n := n) (p := p) (by omega)
    rw [if_pos (by rw [h]; rfl), h1, if_pos hp, decide_eq_true h, Bool.true_and]
    by_cases q : b p = c
    · rw [if_pos q, beq_iff_eq.mpr q]; rfl
    · rw [if_neg q, beq_false_of_ne q]; rfl
  · rw [if_neg (fun e => h (by rw [show (3 : Int32) = nI 3 from rfl, nI_eq (by omega) (by decide)] at e; exact e)), decide_eq_false h]; rfl
theorem m_kw {b : Nat → Int32} {n p : Nat} {l0 so : Int32} {wd : Int64} (hn : n ≤ 700) (hp : p ≤ n) (h1 : l0 = nI (tE b n p - p)) (h2 : so = nI (tK b n p)) (h3 : wd = (if tK b n p = 1 then wdI b p (min (tE b n p - p) 6) else 0)) : zwp (f_X12_knownWord l0 so wd) (fun r => r = kwI b n p) := by
  rw [h1, h2, h3]; exact m_knownWord hn hp
theorem m_puts {x : Int32} {rc : Nat → Int32} {t : Nat} (h : t < 1400) : f_X12_puts x rc (nI t) = some (upd rc t x, nI (t + 1)) := by
  unfold f_X12_puts
  rw [zbnd_nI h (by decide), nI_clamp (by omega), nI_1]
theorem m_waits {x : Int32} {ws : Nat → Int32} {w : Nat} (h : w < 950) : f_X12_waitsFor x (nI w) ws = some (nI (w + 1), upd ws w x) := by
  unfold f_X12_waitsFor
  rw [zbnd_nI h (by decide), nI_clamp (by omega), nI_1]
/-- the class's code, last first, in the reference's code from a to t -/
def CRL (rc : Nat → Int32) (a : Nat) : List Int32 → Nat → Prop
  | [], t => t = a
  | x :: o, t => ∃ t' l, CRL rc a o t' ∧ citem x rc t' l ∧ t = t' + l
theorem citem_l {x : Int32} {rc : Nat → Int32} {t l : Nat} (h : citem x rc t l) : 1 ≤ l ∧ l ≤ 2 := by
  rcases h with ⟨_, _, h⟩ | ⟨_, _, _, h⟩ | ⟨j, _, _, _, _, _, _, h⟩ <;> omega
theorem citem_fr {x : Int32} {rc rc' : Nat → Int32} {t l : Nat} (h : citem x rc t l) (e : ∀ j, j < t + l → rc' j = rc j) : citem x rc' t l := by
  rcases h with ⟨a1, a2, a3⟩ | ⟨a1, a2, a3, a4⟩ | ⟨j, a1, a2, a3, a4, a5, a6, a7⟩
  · exact .inl ⟨a1, by rw [e t (by omega)]; exact a2, a3⟩
  · exact .inr (.inl ⟨a1, by rw [e t (by omega)]; exact a2, by rw [e (t + 1) (by omega)]; exact a3, a4⟩)
  · exact .inr (.inr ⟨j, a1, a2, a3, a4, by rw [e t (by omega)]; exact a5, by rw [e (t + 1) (by omega)]; exact a6, a7⟩)
theorem CRL_ge {rc : Nat → Int32} {a : Nat} : ∀ {o : List Int32} {t : Nat}, CRL rc a o t → a ≤ t
  | [], t, h => by have h' : t = a := h; omega
  | x :: o, t, h => by
    obtain ⟨t', l, h1, h2, h3⟩ := h
    have := CRL_ge h1
    omega
theorem CRL_fr {rc rc' : Nat → Int32} {a : Nat} : ∀ {o : List Int32} {t : Nat}, CRL rc a o t → (∀ j, j < t → rc' j = rc j) → CRL rc' a o t
  | [], _, h, _ => h
  | x :: o, t, h, e => by
    obtain ⟨t', l, h1, h2, h3⟩ := h
    exact ⟨t', l, CRL_fr h1 (fun j hj => e j (by omega)), citem_fr h2 (fun j hj => e j (by omega)), h3⟩
theorem CRL_op {rc : Nat → Int32} {a t : Nat} {o : List Int32} {x : Int32} (hx : isOp x) (h : CRL rc a o t) : CRL (upd rc t (opX x)) a (x :: o) (t + 1) := ⟨t, 1, CRL_fr h (fun j hj => pk_un (by omega)), .inl ⟨hx, by rw [pk_us, opX_op hx], rfl⟩, rfl⟩
theorem CRL_num {rc : Nat → Int32} {a t v : Nat} {o : List Int32} (hv : v < 2 ^ 31) (h : CRL rc a o t) : CRL (upd (upd rc t 1) (t + 1) (nI v)) a (nI v :: o) (t + 2) := ⟨t, 2, CRL_fr h (fun j hj => by rw [pk_un (by omega), pk_un (by omega)]), .inr (.inl ⟨nI_pos hv, by rw [pk_un (by omega), pk_us], pk_us, rfl⟩), rfl⟩
theorem vl_dec : ∀ j, j < 6 → (-1 : Int32) - ((-1 : Int32) - nI j) = nI j ∧ ((-1 : Int32) - nI j) < 0 := by decide +kernel
theorem CRL_val {rc : Nat → Int32} {a t j : Nat} {o : List Int32} (hj : j < 6) (h : CRL rc a o t) : CRL (upd (upd rc t 2) (t + 1) (nI (trv j))) a (((-1 : Int32) - nI j) :: o) (t + 2) := ⟨t, 2, CRL_fr h (fun i hi => by rw [pk_un (by omega), pk_un (by omega)]), .inr (.inr ⟨j, hj, (vl_dec j hj).1, vl_neg j hj, (vl_dec j hj).2, by rw [pk_un (by omega), pk_us], pk_us, rfl⟩), rfl⟩
theorem CRL_crel {rc cd : Nat → Int32} {a : Nat} : ∀ n o t, stL cd n = o → CRL rc a o t → ∃ pos : Nat → Nat, pos 0 = a ∧ pos n = t ∧ ∀ k, k < n → ∃ l, citem (cd k) rc (pos k) l ∧ pos (k + 1) = pos k + l
  | 0, o, t, e, h => by
    have e' : [] = o := e
    subst e'
    have h' : t = a := h
    exact ⟨fun _ => a, rfl, h'.symm, fun k hk => by omega⟩
  | n + 1, o, t, e, h => by
    have e' : cd n :: stL cd n = o := e
    subst e'
    obtain ⟨t', l, h1, h2, h3⟩ := h
    obtain ⟨pos, p0, pn, pk⟩ := CRL_crel n _ t' rfl h1
    refine ⟨fun k => if k = n + 1 then t else pos k, ?_, if_pos rfl, fun k hk => ?_⟩
    · show (if 0 = n + 1 then t else pos 0) = a
      rw [if_neg (by omega)]; exact p0
    · show ∃ l, citem (cd k) rc (if k = n + 1 then t else pos k) l ∧ (if k + 1 = n + 1 then t else pos (k + 1)) = (if k = n + 1 then t else pos k) + l
      rw [if_neg (by omega)]
      by_cases q : k = n
      · subst q
        rw [if_pos rfl, pn]
        exact ⟨l, h2, h3⟩
      · rw [if_neg (by omega)]
        exact pk k (by omega)
/-- the reference's tests, by parentheses -/
def TR (ts : Nat → Int32) : List Bool → Prop
  | [] => True
  | h :: t => ts (t.length + 1) = b2 h ∧ TR ts t
theorem TR_fr {ts ts' : Nat → Int32} : ∀ {L : List Bool}, TR ts L → (∀ i, i ≤ L.length → ts' i = ts i) → TR ts' L
  | [], _, _ => trivial
  | h :: t, hT, e => ⟨by rw [e _ (by rw [List.length_cons]; omega)]; exact hT.1, TR_fr hT.2 (fun i hi => e i (by rw [List.length_cons]; omega))⟩
theorem TR_put {ts : Nat → Int32} {h : Bool} {t : List Bool} (hT : TR ts t) : TR (upd ts (t.length + 1) (b2 h)) (h :: t) := ⟨pk_us, TR_fr hT (fun i hi => pk_un (by omega))⟩
theorem map_stL {ws : Nat → Int32} {x : Int32} {s : List Int32} (h : stL ws (x :: s).length = (x :: s).map opX) : ws s.length = opX x ∧ stL ws s.length = s.map opX := by
  have h' : ws s.length :: stL ws s.length = opX x :: s.map opX := h
  injection h' with h1 h2
  exact ⟨h1, h2⟩
theorem push_stL {ws : Nat → Int32} {x : Int32} {s : List Int32} (h : stL ws s.length = s.map opX) : stL (upd ws s.length (opX x)) (x :: s).length = (x :: s).map opX := by
  show stL (upd ws s.length (opX x)) (s.length + 1) = opX x :: s.map opX
  rw [stL_upd, h]
theorem m_drops {ws rc rc0 : Nat → Int32} {st out : List Int32} {a0 t L : Nat} (hw : st.length ≤ 128) (ht : t + st.length ≤ 1400) (hL : L < 8) (hW : ∀ x, x ∈ st → isW x) (hs : stL ws st.length = st.map opX) (hC : CRL rc a0 out t) (hf : ∀ j, j < a0 → rc j = rc0 j) : zwp (f_X12_drops (nI L) rc (nI t) (nI st.length) ws) (fun r => r.2.2 = nI (rel (max L 1) st out).1.length ∧ stL ws (rel (max L 1) st out).1.length = (rel (max L 1) st out).1.map opX ∧ r.2.1 = nI (t + (st.length - (rel (max L 1) st out).1.length)) ∧ CRL r.1 a0 (rel (max L 1) st out).2 (t + (st.length - (rel (max L 1) st out).1.length)) ∧ (∀ j, j < a0 → r.1 j = rc0 j)) := by
  unfold f_X12_drops
  refine zl_bind (P := fun i a => ∃ rc' s' o', a = (rc', nI (t + i), nI s'.length) ∧ s'.length + i = st.length ∧ (∀ x, x ∈ s' → isW x) ∧ stL ws s'.length = s'.map opX ∧ CRL rc' a0 o' (t + i) ∧ (∀ j, j < a0 → rc' j = rc0 j) ∧ rel (max L 1) st out = rel (max L 1) s' o') (Post := fun r => r.2.2 = nI (rel (max L 1) st out).1.length ∧ stL ws (rel (max L 1) st out).1.length = (rel (max L 1) st out).1.map opX ∧ r.2.1 = nI (t + (st.length - (rel (max L 1) st out).1.length)) ∧ CRL r.1 a0 (rel (max L 1) st out).2 (t + (st.length - (rel (max L 1) st out).1.length)) ∧ (∀ j, j < a0 → r.1 j = rc0 j)) st.length (by omega) ⟨rc, st, out, rfl, rfl, hW, hs, hC, hf, rfl⟩ ?_ ?_ ?_
  · rintro i hi _ ⟨rc', s', o', rfl, h1, h2, h3, h4, h5, h6⟩
    cases s' with
    | nil => rw [List.length_nil] at h1; omega
    | cons x s2 =>
      have hx := h2 x List.mem_cons_self
      obtain ⟨e1, e2⟩ := map_stL h3
      rw [List.length_cons] at h1
      refine zi_f (nI_nle (by rw [List.length_cons]; omega) (by rw [List.length_cons]; omega)) ?_
      dsimp only
      rw [List.length_cons, nI_s1, zbnd_nI (by omega) (by decide), nI_clamp (show s2.length < 2 ^ 31 by omega), e1]
      refine zi_beq (m_open hx) ?_
      have hstop : rkN x < max L 1 → (nI (s2.length + 1) = nI (rel (max L 1) st out).1.length ∧ stL ws (rel (max L 1) st out).1.length = (rel (max L 1) st out).1.map opX ∧ nI (t + i) = nI (t + (st.length - (rel (max L 1) st out).1.length)) ∧ CRL rc' a0 (rel (max L 1) st out).2 (t + (st.length - (rel (max L 1) st out).1.length)) ∧ (∀ j, j < a0 → rc' j = rc0 j)) := fun q => by
        rw [h6, rel_t q, List.length_cons, show st.length - (s2.length + 1) = i by omega]
        exact ⟨rfl, h3, rfl, h4, h5⟩
      by_cases q20 : x = -20
      · rw [decide_eq_true q20]
        exact zi_f (by decide) (zwi (hstop (by rw [q20, rk_20]; omega)))
      · rw [decide_eq_false q20]
        refine zi_t rfl ?_
        have hop : isOp x := hx.resolve_right q20
        rw [zbnd_nI (by omega) (by decide)]
        refine zi_beq (m_strength hop) ?_
        have hr0 : 0 < rkN x := by
          rcases hop with q | q | q | q | q | q | q | q | q <;> rw [q] <;> decide
        have hr6 := rk_le (x := x)
        by_cases q : rkN x < L
        · exact zi_t (nI_lt q (by omega)) (zwi (hstop (by omega)))
        · refine zi_f (nI_nlt (by omega) (by omega)) ?_
          rw [zbnd_nI (by omega) (by decide)]
          refine zi_beq (m_puts (by omega)) (zwi ?_)
          refine ⟨_, s2, x :: o', rfl, by omega, fun y hy => h2 y (List.mem_cons_of_mem _ hy), e2, CRL_op hop h4, fun j hj => ?_, ?_⟩
          · have := CRL_ge h4
            show upd rc' (t + i) (opX x) j = rc0 j
            rw [pk_un (by omega)]; exact h5 j hj
          · rw [h6]; exact rel_f (by omega)
  · rintro _ ⟨rc', s', o', rfl, h1, h2, h3, h4, h5, h6⟩
    cases s' with
    | cons x s2 => rw [List.length_cons] at h1; omega
    | nil =>
      refine zi_t (show nI 0 ≤ 0 by decide) (zwi ?_)
      rw [h6]
      exact ⟨rfl, rfl, rfl, h4, h5⟩
  · rintro ⟨y4, y5, y6⟩ h; exact zwi h
def fV (oh : Bool) : Int32 := if oh then 1 else 0
def lV (oh : Bool) : Int32 := if oh then 5 else 4
/-- which values a word may be -/
theorem kw_val {b : Nat → Int32} {n p : Nat} {oh : Bool} : (vlO b n p oh = -1 ∧ (kwI b n p < fV oh ∨ ¬ kwI b n p ≤ lV oh)) ∨ (∃ j, j < 6 ∧ vlO b n p oh = nI j ∧ kwI b n p = nI (trv j) ∧ ¬ kwI b n p < fV oh ∧ kwI b n p ≤ lV oh) := by
  rcases vlO_cs (b := b) (n := n) (p := p) (oh := oh) with hv | ⟨j, j1, j2, j3, j4, j5⟩
  · refine .inl ⟨hv, ?_⟩
    rcases kw_cs (b := b) (n := n) (p := p) with ⟨e, _⟩ | ⟨k, hk, e, ht⟩
    · rw [e]; left; cases oh <;> decide
    · rw [e]
      unfold vlO at hv
      have hn : ∀ i, i < 16 → ¬ i = k → tw b n p i = false := fun i hi q => by
        cases hq : tw b n p i with
        | false => rfl
        | true => exact absurd (tw_one hi hk hq ht) q
      by_cases q0 : k = 0
      · subst q0
        rw [hn 1 (by decide) (by decide), hn 2 (by decide) (by decide), hn 3 (by decide) (by decide), hn 4 (by decide) (by decide), ht] at hv
        cases oh with
        | true => left; decide
        | false => exact absurd (show (4 : Int32) = -1 from hv) (by decide)
      by_cases q1 : k = 1
      · subst q1; rw [ht] at hv; exact absurd (show (0 : Int32) = -1 from hv) (by decide)
      by_cases q2 : k = 2
      · subst q2
        rw [hn 1 (by decide) (by decide), ht] at hv; exact absurd (show (1 : Int32) = -1 from hv) (by decide)
      by_cases q3 : k = 3
      · subst q3
        rw [hn 1 (by decide) (by decide), hn 2 (by decide) (by decide), ht] at hv; exact absurd (show (2 : Int32) = -1 from hv) (by decide)
      by_cases q4 : k = 4
      · subst q4
        rw [hn 1 (by decide) (by decide), hn 2 (by decide) (by decide), hn 3 (by decide) (by decide), ht] at hv; exact absurd (show (3 : Int32) = -1 from hv) (by decide)
      right
      by_cases q5 : k = 5
      · subst q5
        rw [hn 1 (by decide) (by decide), hn 2 (by decide) (by decide), hn 3 (by decide) (by decide), hn 4 (by decide) (by decide), hn 0 (by decide) (by decide), ht] at hv
        cases oh with
        | false => decide
        | true => exact absurd (show (5 : Int32) = -1 from hv) (by decide)
      · have h6 : 6 ≤ k := by omega
        cases oh with
        | true => exact nI_ge (a := 5) (by omega) (by omega)
        | false => exact nI_ge (a := 4) (by omega) (by omega)
  · refine .inr ⟨j, j1, j2, ?_, ?_⟩
    · exact (kw_iff (by unfold trv; split; omega; split <;> omega)).mpr j3
    · rw [(kw_iff (k := trv j) (by unfold trv; split; omega; split <;> omega)).mpr j3]
      revert j4 j5
      cases oh with
      | true =>
        intro j4 _
        have : ¬ j = 4 := fun q => by cases j4 q
        revert this
        clear j4 j2 j3
        revert j
        decide +kernel
      | false =>
        intro _ j5
        have : ¬ j = 5 := fun q => by cases j5 q
        revert this
        clear j5 j2 j3
        revert j
        decide +kernel
/-- a fault of the rule stands; what is left to do is safe -/
def Bad (R : RR3) (fk fp wn tp : Int32) : Prop := fk = nI R.1 ∧ fp = nI R.2.1 ∧ 1 ≤ R.1 ∧ R.1 ≤ 3 ∧ ∃ w t, wn = nI w ∧ tp = nI t ∧ w ≤ 128 ∧ t + w < 1400
def MS (dp : Nat) (st : List Int32) (dpm wn : Int32) (ws ts : Nat → Int32) : Prop := dpm = nI (dp + 1) ∧ dp ≤ 5 ∧ wn = nI st.length ∧ stL ws st.length = st.map opX ∧ TR ts (lvF st)
def MA (a0 : Nat) (rc0 : Nat → Int32) (s : RS) (dpm wn : Int32) (ws ts rc : Nat → Int32) (tp : Int32) : Prop := MS s.2.2.2.1 s.2.2.2.2.1 dpm wn ws ts ∧ (∀ j, j < a0 → rc j = rc0 j) ∧ ∃ t, tp = nI t ∧ CRL rc a0 s.2.2.2.2.2.1 t ∧ t + 2 * s.2.2.2.2.1.length + 1 ≤ 2 * s.2.2.2.2.2.2
theorem m_wrong0 {k : Int32} {pl : Int32} : f_X12_wrong k 0 (-1) pl = some (k, pl) := rfl
theorem m_part {b tape rc rc0 : Nat → Int32} {n a0 t nots dp p : Nat} {oh bn : Bool} {st out : List Int32} {l0 nx pl sg so va : Int32} {wd : Int64} (hn : n ≤ 700) (htp : ∀ k, k < n → tape k = b k) (hI : AI n (true, bn, nots, dp, st, out, p)) (hd : dp ≤ 5) (hT : MTok b n p l0 nx pl sg so va wd) (hC : CRL rc a0 out t) (hf : ∀ j, j < a0 → rc j = rc0 j) (hb : t + 2 * st.length + 1 ≤ 2 * p) (h40 : sgI b n p 40 = false) (h15 : (bn && tw b n p 15) = false) : zwp (f_X12_part 0 (-1) (fV oh) (lV oh) l0 (nI n) nx pl rc sg so tape (nI t) va wd) (fun r => Sum.elim (fun s' => r.1 = 0 ∧ r.2.1 = -1 ∧ s'.1 = false ∧ s'.2.2.2.1 = dp ∧ s'.2.2.2.2.1 = st ∧ MTok b n s'.2.2.2.2.2.2 r.2.2.1 r.2.2.2.1 r.2.2.2.2.1 r.2.2.2.2.2.2.1 r.2.2.2.2.2.2.2.1 r.2.2.2.2.2.2.2.2.2.1 r.2.2.2.2.2.2.2.2.2.2 ∧ (∀ j, j < a0 → r.2.2.2.2.2.1 j = rc0 j) ∧ ∃ t', r.2.2.2.2.2.2.2.2.1 = nI t' ∧ CRL r.2.2.2.2.2.1 a0 s'.2.2.2.2.2.1 t' ∧ t' + 2 * st.length + 1 ≤ 2 * s'.2.2.2.2.2.2) (fun k => r.1 = nI k ∧ r.2.1 = nI p ∧ ∃ t', r.2.2.2.2.2.2.2.2.1 = nI t' ∧ t' + st.length < 1400) (aPart b n oh (true, bn, nots, dp, st, out, p))) := by
  obtain ⟨r, j, c1, c2, c3, c4, c5, c6, c7, c8, c9⟩ := hI
  dsimp only at c1 c2 c3 c4 c5 c6 c7 c8 c9
  obtain ⟨t1, t2, t3, t4, t5, t6, t7⟩ := hT
  have hk := tK_le (b := b) (n := n) (p := p)
  have k2 : so = 2 ↔ tK b n p = 2 := by rw [t5]; exact nI_eq (b := 2) (by omega) (by decide)
  have k1 : so = 1 ↔ tK b n p = 1 := by rw [t5]; exact nI_eq (b := 1) (by omega) (by decide)
  obtain ⟨e1, e2, _⟩ := tE_le (b := b) (n := n) (p := p) c4
  have hge := CRL_ge hC
  unfold f_X12_part aPart
  refine zi_beq (a := 1) rfl ?_
  refine zi_f (by decide) ?_
  dsimp only
  rw [h40, if_neg (show ¬ false = true by decide)]
  by_cases h2 : tK b n p = 2
  · have hpn := tK_pos (b := b) (n := n) (p := p) (by omega)
    have hx := nx_ok (b := b) hpn
    rw [if_pos h2, if_pos (show dp < 6 by omega)]
    refine zi_bind (zi_t (k2.mpr h2) ?_)
    by_cases h4 : tE b n p - p ≤ 4
    · rw [if_pos h4]
      refine zi_bind (zi_t (by rw [t1, show (4 : Int32) = nI 4 from rfl]; exact nI_le h4 (by decide)) (zwi ?_))
      refine zi_beq (m_puts (by omega)) ?_
      refine zi_beq (m_puts (by omega)) (zwi ?_)
      refine zi_beq (a := 1) rfl (zi_f (by decide) ?_)
      refine zi_bind (zwp_mono (m_gs hn c4 htp t2) ?_)
      rintro ⟨o8, o9, o10, o11, o12, o13, o14⟩ hT2
      obtain ⟨v1, v2⟩ := nvN_ok c4 h2 h4
      rw [if_pos h2, Nat.min_eq_left h4, v1] at t6
      rw [v1]
      refine zwi ⟨rfl, rfl, rfl, rfl, rfl, hT2, fun j hj => ?_, t + 2, rfl, ?_, ?_⟩
      · show upd (upd rc t 1) (t + 1) va j = rc0 j
        rw [pk_un (by omega), pk_un (by omega)]; exact hf j hj
      · rw [t6]; exact CRL_num (by omega) hC
      · show t + 2 + 2 * st.length + 1 ≤ 2 * nxP b n p
        omega
    · rw [if_neg h4]
      refine zi_bind (zi_f (by rw [t1, show (4 : Int32) = nI 4 from rfl]; exact nI_ge (by omega) (by omega)) ?_)
      refine zi_beq m_wrong0 (zwi ?_)
      refine zi_beq (m_puts (by omega)) ?_
      refine zi_beq (m_puts (by omega)) (zwi ?_)
      refine zi_beq (a := 0) rfl (zi_t rfl (zwi ?_))
      exact ⟨rfl, t3, t + 2, rfl, by omega⟩
  · rw [if_neg h2]
    by_cases h1 : tK b n p = 1
    · have hpn := tK_pos (b := b) (n := n) (p := p) (by omega)
      have hx := nx_ok (b := b) hpn
      rw [if_pos h1, if_pos (show dp < 6 by omega), h15, if_neg (show ¬ false = true by decide)]
      refine zi_bind (zi_f (fun e => h2 (k2.mp e)) (zi_t (k1.mpr h1) ?_))
      refine zi_bind (zwp_mono (m_kw hn c4 t1 t5 t7) ?_)
      rintro _ rfl
      rcases kw_val (b := b) (n := n) (p := p) (oh := oh) with ⟨hv, hk2⟩ | ⟨i, i1, i2, i3, i4, i5⟩
      · rw [if_pos hv]
        refine zi_bind (zwp_mono (Q := fun v => v = (3, pl)) ?_ ?_)
        · by_cases q : kwI b n p < fV oh
          · exact zi_t q (zi_beq m_wrong0 (zwi rfl))
          · exact zi_f q (zi_f (hk2.resolve_left q) (zi_beq m_wrong0 (zwi rfl)))
        rintro _ rfl
        refine zi_beq (m_puts (by omega)) ?_
        refine zi_beq (m_puts (by omega)) (zwi ?_)
        refine zi_beq (a := 0) rfl (zi_t rfl (zwi ?_))
        exact ⟨rfl, t3, t + 2, rfl, by omega⟩
      · rw [if_neg (show ¬ vlO b n p oh = -1 by rw [i2]; exact nI_nm1 (by omega))]
        refine zi_bind (zi_f i4 (zi_t i5 (zwi ?_)))
        refine zi_beq (m_puts (by omega)) ?_
        refine zi_beq (m_puts (by omega)) (zwi ?_)
        refine zi_beq (a := 1) rfl (zi_f (by decide) ?_)
        refine zi_bind (zwp_mono (m_gs hn c4 htp t2) ?_)
        rintro ⟨o8, o9, o10, o11, o12, o13, o14⟩ hT2
        rw [i3]
        refine zwi ⟨rfl, rfl, rfl, rfl, rfl, hT2, fun j hj => ?_, t + 2, rfl, ?_, ?_⟩
        · show upd (upd rc t 2) (t + 1) (nI (trv i)) j = rc0 j
          rw [pk_un (by omega), pk_un (by omega)]; exact hf j hj
        · rw [i2]; exact CRL_val i1 hC
        · show t + 2 + 2 * st.length + 1 ≤ 2 * nxP b n p
          omega
    · rw [if_neg h1]
      refine zi_bind (zi_f (fun e => h2 (k2.mp e)) (zi_f (fun e => h1 (k1.mp e)) ?_))
      refine zi_beq m_wrong0 (zwi ?_)
      refine zi_beq (a := 0) rfl (zi_t rfl (zwi ?_))
      exact ⟨rfl, t3, t, rfl, by omega⟩
