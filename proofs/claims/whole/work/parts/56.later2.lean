/-! LATER: both sides -/
theorem clr_all : ∀ v, v < 256 → ∀ f, f < 8 → nI v &&& (((1 : Int32) <<< (nI f &&& 31)) ^^^ (-1)) = nI (v &&& (255 - 2 ^ f)) := by decide +kernel
theorem clr_bit : ∀ f, f < 8 → ∀ g, g < 8 → (255 - 2 ^ f).testBit g = !(g == f) := by decide +kernel
theorem bts_clr {p : Nat → Bool} {F f : Nat} (hF : F ≤ 8) (hf : f < 8) : nI (bts p F) &&& (((1 : Int32) <<< (nI f &&& 31)) ^^^ (-1)) = nI (bts (fun g => p g && !(g == f)) F) := by
  rw [clr_all _ (Nat.lt_of_lt_of_le (bts_lt _ _) (Nat.pow_le_pow_right (by decide) hF : 2 ^ F ≤ 2 ^ 8)) f hf]
  congr 1
  apply Nat.eq_of_testBit_eq
  intro i
  rw [Nat.testBit_and, bts_bit, bts_bit]
  by_cases h : i < F
  · rw [clr_bit f hf i (by omega), decide_eq_true h]; rfl
  · rw [decide_eq_false h]; rfl
/-- bits up to i cleared where a does not hold -/
def upB (A a : Nat → Bool) (i g : Nat) : Bool := A g && (!decide (g < i) || a g)
theorem upB_0 {A a : Nat → Bool} {F : Nat} : bts (upB A a 0) F = bts A F := bts_cg (fun k _ => by unfold upB; rw [decide_eq_false (by omega)]; simp)
theorem upB_F {A a : Nat → Bool} {F : Nat} : bts (upB A a F) F = bts (fun g => A g && a g) F := bts_cg (fun k hk => by unfold upB; rw [decide_eq_true hk]; rfl)
theorem upB_t {A a : Nat → Bool} {F i : Nat} (h : a i = true) : bts (upB A a (i + 1)) F = bts (upB A a i) F := bts_cg (fun k _ => by
  unfold upB
  by_cases q : k = i
  · subst q; rw [h]; simp
  · by_cases q2 : k < i
    · rw [decide_eq_true q2, decide_eq_true (by omega)]
    · rw [decide_eq_false q2, decide_eq_false (by omega)])
theorem upB_f {A a : Nat → Bool} {F i : Nat} (h : a i = false) : bts (upB A a (i + 1)) F = bts (fun g => upB A a i g && !(g == i)) F := bts_cg (fun k _ => by
  unfold upB
  by_cases q : k = i
  · subst q; rw [h, decide_eq_true (by omega), beq_self_eq_true]; simp
  · rw [show (k == i) = false from beq_false_of_ne q]
    by_cases q2 : k < i
    · rw [decide_eq_true q2, decide_eq_true (by omega)]; simp
    · rw [decide_eq_false q2, decide_eq_false (by omega)]; simp)
theorem c_later {P : Pl} (hP : plOk P) {hr pn wl : Nat} {ncell nsore nheld nlead fcell fsore fheld flead vals gst hst : Nat → Int32} {ffig fhr fpn : Int32} {fwl : Int64} {rows : Nat → Int32} (hN : NowR P hr pn wl ncell nsore nheld nlead rows) {vis : Nat → Int32} {a1 a2 : Int32} : zwp (f_X11_later a1 a2 fcell ffig fheld fhr flead fpn fsore fwl vals ncell (nI (qF P)) nheld (nI hr) nlead (nI pn) nsore (lN wl) (qDb P) (nI (qF P)) (qGc P) (nI (qGn P)) gst (nI (qH P)) (qHc P) (nI (qHn P)) hst (qLt P) (nI (qNl P)) (qSt P) (qWy P) (nI (qW P)) vis) (fun r => r.1 = toC (cond (okN (3 + 1) a2) (cond (inR (if a2 = 0 then 1 else 0) 100 a1) (.inl (if a2 = 0 then (mx (sVis (qF P) (fun k => (sRun P wl (fun _ => 0) hr (tCp ncell nsore nheld fcell fsore fheld) k).1) a1.toNatClampNeg) 36).2 else if a2 = 1 then (mx (sRun P wl (fun _ => 0) hr (tCp ncell nsore nheld fcell fsore fheld) a1.toNatClampNeg).2.1 (qF P)).2 else if a2 = 2 then nI (bts (fun f => allB (fun k => alB (qF P) (sRun P wl (fun _ => 0) hr (tCp ncell nsore nheld fcell fsore fheld) k).1 f) (a1.toNatClampNeg + 1)) (qF P)) else nI (bts (fun f => allB (fun k => (sRun P wl (fun _ => 0) hr (tCp ncell nsore nheld fcell fsore fheld) (k + 1)).1 f == ncell f) a1.toNatClampNeg) (qF P)))) (.inr true)) (.inr false))) := by
  have hF := hP.2.2.2.2.1
  have hWH := hP.wh
  unfold f_X11_later
  refine zi_beq (c_checkWhat (n := 3) (by decide)) ?_
  cases hc0 : okN (3 + 1) a2 with
  | false => exact zwi rfl
  | true =>
    obtain ⟨k, hk, rfl⟩ := okN_t hc0
    obtain ⟨lo, e1, e2, e3⟩ : ∃ lo : Nat, (if nI k = 0 then 1 else 0) = lo ∧ lo ≤ 1 ∧ (if nI k = 0 then some (1 : Int32) else some 0) = some (nI lo) := by
      by_cases h : nI k = 0
      · exact ⟨1, if_pos h, by omega, if_pos h⟩
      · exact ⟨0, if_neg h, by omega, if_neg h⟩
    rw [e1]
    refine zi_beq e3 ?_
    refine zi_beq (c_checkHours (lo := lo) (hi := 100) (by omega) (by decide)) ?_
    cases hc1 : inR lo 100 a1 with
    | false => exact zwi rfl
    | true =>
      obtain ⟨n, ln, hn, rfl⟩ := inR_t hc1
      rw [nI_clamp (show n < 2 ^ 31 by omega)]
      refine zi_c (fun q => ?_) (fun q => ?_)
      · rw [if_pos q]
        refine zi_bind (zwp_mono (c_busiest hP hN (by omega)) ?_)
        rintro ⟨x1, x2, x3, x4, x5, x6, x7, x8, x9, x10, x11, x12, x13⟩ e
        dsimp only at e
        exact zwi (by rw [← e]; rfl)
      rw [if_neg q]
      refine zi_c (fun q => ?_) (fun q => ?_)
      · rw [if_pos q]
        refine zi_bind (zwp_mono (c_sorest hP hN (by omega)) ?_)
        rintro ⟨x1, x2, x3, x4, x5, x6, x7, x8, x9, x10, x11, x12⟩ e
        dsimp only at e
        exact zwi (by rw [← e]; rfl)
      rw [if_neg q]
      refine zi_c (fun q => ?_) (fun q => ?_)
      · rw [if_pos q]
        refine zi_bind (zwp_mono (c_alone hP hN (by omega)) ?_)
        rintro ⟨x1, x2, x3, x4, x5, x6, x7, x8, x9, x10, x11, x12⟩ e
        dsimp only at e
        exact zwi (by rw [← e]; rfl)
      · rw [if_neg q]
        refine zi_bind (zwp_mono (c_stuck hP hN (by omega)) ?_)
        rintro ⟨x1, x2, x3, x4, x5, x6, x7, x8, x9, x10, x11, x12⟩ e
        dsimp only at e
        exact zwi (by rw [← e]; rfl)
theorem m_later {P : Pl} (hP : plOk P) {hr pn wl : Nat} {ncell nsore nheld nlead fcell fsore fheld : Nat → Int32} {mwl mways mlight mcode rows mtold mpile : Nat → Int32} {mga mha mthr : Int32} (hm : mPl P mwl mways mlight mcode mga mha) (hN : NowR P hr pn wl ncell nsore nheld nlead rows) {moften : Nat → Int32} {a1 a2 : Int32} : zwp (f_X12_later a1 a2 mcode (qDb P) (-1 : Int32) (nI (qF P)) mga mha mlight (nI (qNl P)) moften mpile rows (nI (qH P)) mthr mtold mwl mways (nI (qW P))) (fun r => r.1 = toV (cond (okN (3 + 1) a2) (cond (inR (if a2 = 0 then 1 else 0) 100 a1) (.inl (if a2 = 0 then (mx (sVis (qF P) (fun k => (sRun P wl (fun _ => 0) hr (tCp ncell nsore nheld fcell fsore fheld) k).1) a1.toNatClampNeg) 36).2 else if a2 = 1 then (mx (sRun P wl (fun _ => 0) hr (tCp ncell nsore nheld fcell fsore fheld) a1.toNatClampNeg).2.1 (qF P)).2 else if a2 = 2 then nI (bts (fun f => allB (fun k => alB (qF P) (sRun P wl (fun _ => 0) hr (tCp ncell nsore nheld fcell fsore fheld) k).1 f) (a1.toNatClampNeg + 1)) (qF P)) else nI (bts (fun f => allB (fun k => (sRun P wl (fun _ => 0) hr (tCp ncell nsore nheld fcell fsore fheld) (k + 1)).1 f == ncell f) a1.toNatClampNeg) (qF P)))) (.inr true)) (.inr false)) ∧ r.2.2.2.2.1 = toT (cond (okN (3 + 1) a2) (cond (inR (if a2 = 0 then 1 else 0) 100 a1) (.inl (if a2 = 0 then (mx (sVis (qF P) (fun k => (sRun P wl (fun _ => 0) hr (tCp ncell nsore nheld fcell fsore fheld) k).1) a1.toNatClampNeg) 36).2 else if a2 = 1 then (mx (sRun P wl (fun _ => 0) hr (tCp ncell nsore nheld fcell fsore fheld) a1.toNatClampNeg).2.1 (qF P)).2 else if a2 = 2 then nI (bts (fun f => allB (fun k => alB (qF P) (sRun P wl (fun _ => 0) hr (tCp ncell nsore nheld fcell fsore fheld) k).1 f) (a1.toNatClampNeg + 1)) (qF P)) else nI (bts (fun f => allB (fun k => (sRun P wl (fun _ => 0) hr (tCp ncell nsore nheld fcell fsore fheld) (k + 1)).1 f == ncell f) a1.toNatClampNeg) (qF P)))) (.inr true)) (.inr false)) ∧ ∀ k, k < 70 → r.2.2.2.1 k = rows k) := by
  have hF := hP.2.2.2.2.1
  have hWH := hP.wh
  unfold f_X12_later
  have hr9 := hN.2.2.1
  refine zi_beq (m_isWhat (n := 3) (by decide)) ?_
  cases hc0 : okN (3 + 1) a2 with
  | false => exact zi_t rfl (zwi ⟨rfl, rfl, fun _ _ => rfl⟩)
  | true =>
    refine zi_f (by decide) ?_
    obtain ⟨k, hk, rfl⟩ := okN_t hc0
    obtain ⟨lo, e1, e2, e3⟩ : ∃ lo : Nat, (if nI k = 0 then 1 else 0) = lo ∧ lo ≤ 1 ∧ (if nI k = 0 then some (1 : Int32) else some 0) = some (nI lo) := by
      by_cases h : nI k = 0
      · exact ⟨1, if_pos h, by omega, if_pos h⟩
      · exact ⟨0, if_neg h, by omega, if_neg h⟩
    rw [e1]
    refine zi_beq e3 ?_
    refine zi_beq (m_isSoon (lo := lo) (w := 2) (by omega) (by decide)) ?_
    cases hc1 : inR lo 100 a1 with
    | false => exact zi_t rfl (zwi ⟨rfl, rfl, fun _ _ => rfl⟩)
    | true =>
      refine zi_f (by decide) ?_
      obtain ⟨n, ln, hn, rfl⟩ := inR_t hc1
      rw [nI_clamp (show n < 2 ^ 31 by omega)]
      have hok : ∀ k f, f < qF P → ∃ c, (sRun P wl (fun _ => 0) hr (tCp ncell nsore nheld fcell fsore fheld) k).1 f = nI c ∧ c < 36 := fun k f hf => by
        obtain ⟨c, h1, h2⟩ := (sRun_ok hP (tCp_ok hP hN.tk) k).1 f hf
        exact ⟨c, h1, by omega⟩
      refine zi_bind (zwp_mono m_clears ?_)
      intro o6 h6
      refine zi_bind (zwp_mono m_tries ?_)
      intro r0 ⟨t1, t2⟩
      have hR0 := rRow_tcp hP (fcell := fcell) (fsore := fsore) (fheld := fheld) hN.1 t2
      rw [ones_all _ hF]
      refine zl_bind (P := fun k a => ∃ of p r t, a = (nI (bts (fun f => allB (fun i => alB (qF P) (sRun P wl (fun _ => 0) hr (tCp ncell nsore nheld fcell fsore fheld) i).1 f) k) (qF P)), nI (bts (fun f => allB (fun i => (sRun P wl (fun _ => 0) hr (tCp ncell nsore nheld fcell fsore fheld) i).1 f == ncell f) k) (qF P)), nI k, of, p, r, t) ∧ (∀ j, j < 36 → of j = sVis (qF P) (fun k => (sRun P wl (fun _ => 0) hr (tCp ncell nsore nheld fcell fsore fheld) k).1) (k - 1) j) ∧ rRow (qF P) 70 r (hr + (k - 1)) (sRun P wl (fun _ => 0) hr (tCp ncell nsore nheld fcell fsore fheld) (k - 1)).1 (sRun P wl (fun _ => 0) hr (tCp ncell nsore nheld fcell fsore fheld) (k - 1)).2.1 (sRun P wl (fun _ => 0) hr (tCp ncell nsore nheld fcell fsore fheld) (k - 1)).2.2 (fun _ => 0) wl ∧ ∀ j, j < 70 → r j = rows j) (Post := fun b => ∃ of p r t, b = (nI (bts (fun f => allB (fun i => alB (qF P) (sRun P wl (fun _ => 0) hr (tCp ncell nsore nheld fcell fsore fheld) i).1 f) (n + 1)) (qF P)), nI (bts (fun f => allB (fun i => (sRun P wl (fun _ => 0) hr (tCp ncell nsore nheld fcell fsore fheld) i).1 f == ncell f) (n + 1)) (qF P)), of, p, r, t) ∧ (∀ j, j < 36 → of j = sVis (qF P) (fun k => (sRun P wl (fun _ => 0) hr (tCp ncell nsore nheld fcell fsore fheld) k).1) n j) ∧ rRow (qF P) 70 r (hr + n) (sRun P wl (fun _ => 0) hr (tCp ncell nsore nheld fcell fsore fheld) n).1 (sRun P wl (fun _ => 0) hr (tCp ncell nsore nheld fcell fsore fheld) n).2.1 (sRun P wl (fun _ => 0) hr (tCp ncell nsore nheld fcell fsore fheld) n).2.2 (fun _ => 0) wl ∧ ∀ j, j < 70 → r j = rows j) (n + 1) (by omega) ⟨o6, mpile, r0, mtold, rfl, h6, hR0, t1⟩ ?_ ?_ ?_
      · rintro k hk _ ⟨of, p1, r, t, rfl, ho, h1, h2⟩
        refine zi_f (nI_nlt (by omega) (by omega)) ?_
        refine zi_bind (zwp_mono (Q := fun b => (∀ j, j < 36 → b.1 j = sVis (qF P) (fun k => (sRun P wl (fun _ => 0) hr (tCp ncell nsore nheld fcell fsore fheld) k).1) k j) ∧ rRow (qF P) 70 b.2.2.1 (hr + k) (sRun P wl (fun _ => 0) hr (tCp ncell nsore nheld fcell fsore fheld) k).1 (sRun P wl (fun _ => 0) hr (tCp ncell nsore nheld fcell fsore fheld) k).2.1 (sRun P wl (fun _ => 0) hr (tCp ncell nsore nheld fcell fsore fheld) k).2.2 (fun _ => 0) wl ∧ ∀ j, j < 70 → b.2.2.1 j = rows j) ?_ ?_)
        · cases k with
          | zero => exact zi_t (by decide) (zwi ⟨ho, h1, h2⟩)
          | succ k =>
            refine zi_f (nI_ge (a := 0) (by omega) (by omega)) ?_
            refine zi_bind (zwp_mono (m_hourK hP hm (k := k) h1 (by omega) (fun f _ => by omega) (tCp_ok hP hN.tk)) ?_)
            rintro ⟨q1, q2, q3⟩ ⟨g1, g2⟩
            dsimp only at g1 g2
            refine zi_bind (zwp_mono (m_marks hF g1.2.1 (hok (k + 1))) ?_)
            intro o45 h45
            exact zwi ⟨fun j hj => (h45 j hj).trans (by rw [ho j hj]; rfl), g1, fun j hj => (g2 j hj).trans (h2 j hj)⟩
        rintro ⟨j30, j31, j32, j33⟩ ⟨a1', a2', a3'⟩
        dsimp only at a1' a2' a3' ⊢
        refine zl_bind (P := fun i a => a = (nI (bts (upB (fun f => allB (fun i => alB (qF P) (sRun P wl (fun _ => 0) hr (tCp ncell nsore nheld fcell fsore fheld) i).1 f) k) (alB (qF P) (sRun P wl (fun _ => 0) hr (tCp ncell nsore nheld fcell fsore fheld) k).1) i) (qF P)), nI (bts (upB (fun f => allB (fun i => (sRun P wl (fun _ => 0) hr (tCp ncell nsore nheld fcell fsore fheld) i).1 f == ncell f) k) (fun f => (sRun P wl (fun _ => 0) hr (tCp ncell nsore nheld fcell fsore fheld) k).1 f == ncell f) i) (qF P)), nI i)) (Post := fun b => b = (nI (bts (upB (fun f => allB (fun i => alB (qF P) (sRun P wl (fun _ => 0) hr (tCp ncell nsore nheld fcell fsore fheld) i).1 f) k) (alB (qF P) (sRun P wl (fun _ => 0) hr (tCp ncell nsore nheld fcell fsore fheld) k).1) (qF P)) (qF P)), nI (bts (upB (fun f => allB (fun i => (sRun P wl (fun _ => 0) hr (tCp ncell nsore nheld fcell fsore fheld) i).1 f == ncell f) k) (fun f => (sRun P wl (fun _ => 0) hr (tCp ncell nsore nheld fcell fsore fheld) k).1 f == ncell f) (qF P)) (qF P)))) (qF P) (by omega) (by rw [upB_0, upB_0]; rfl) ?_ ?_ ?_
        · rintro i hi _ rfl
          refine zi_f (nI_ge hi (by omega)) ?_
          refine zi_beq (m_withIt (b := 70) hF hi (Nat.le_refl _) a2'.2.1) ?_
          have hle : sWith (qF P) (sRun P wl (fun _ => 0) hr (tCp ncell nsore nheld fcell fsore fheld) k).1 i ≤ qF P := Nat.le_trans (Nat.sub_le _ _) (fb_ct_le _ _)
          refine zi_bind (zwp_mono (Q := fun v => v = nI (bts (upB (fun f => allB (fun i => alB (qF P) (sRun P wl (fun _ => 0) hr (tCp ncell nsore nheld fcell fsore fheld) i).1 f) k) (alB (qF P) (sRun P wl (fun _ => 0) hr (tCp ncell nsore nheld fcell fsore fheld) k).1) (i + 1)) (qF P))) ?_ ?_)
          · by_cases h0 : sWith (qF P) (sRun P wl (fun _ => 0) hr (tCp ncell nsore nheld fcell fsore fheld) k).1 i = 0
            · refine zi_t (by rw [h0]; decide) (zwi ?_)
              rw [upB_t (show alB (qF P) (sRun P wl (fun _ => 0) hr (tCp ncell nsore nheld fcell fsore fheld) k).1 i = true by unfold alB; rw [h0]; rfl)]
            · refine zi_f (nI_ge (a := 0) (by omega) (by omega)) (zwi ?_)
              rw [upB_f (show alB (qF P) (sRun P wl (fun _ => 0) hr (tCp ncell nsore nheld fcell fsore fheld) k).1 i = false from beq_false_of_ne h0), bts_clr hF (by omega)]
          · intro v e
            subst e
            dsimp only
            rw [ix71, show (1 : Int32) + nI i = nI (0 + 1 + i) by rw [show (1 : Int32) = nI 1 from rfl, nI_add], zbnd_nI (by omega) (by decide), zbnd_nI (by omega) (by decide), nI_clamp (show 70 + 1 + i < 2 ^ 31 by omega), nI_clamp (show 0 + 1 + i < 2 ^ 31 by omega), a2'.2.1 i hi, (a3' (0 + 1 + i) (by omega)).trans (hN.1.2.1 i hi)]
            refine zi_c (fun q => ?_) (fun q => ?_)
            · exact zwi (by rw [upB_t (a := fun f => (sRun P wl (fun _ => 0) hr (tCp ncell nsore nheld fcell fsore fheld) k).1 f == ncell f) (beq_iff_eq.mpr q), nI_1]; rfl)
            · exact zwi (by rw [upB_f (a := fun f => (sRun P wl (fun _ => 0) hr (tCp ncell nsore nheld fcell fsore fheld) k).1 f == ncell f) (beq_false_of_ne q), bts_clr hF (by omega), nI_1]; rfl)
        · rintro _ rfl
          exact zi_t (nI_le (Nat.le_refl _) (by omega)) (zwi rfl)
        · rintro _ rfl
          exact zwi ⟨j30, j31, j32, j33, by rw [upB_F, upB_F, nI_1]; rfl, a1', a2', a3'⟩
      · rintro _ ⟨of, p1, r, t, rfl, ho, h1, h2⟩
        exact zi_t (nI_lt (by omega) (by omega)) (zwi ⟨of, p1, r, t, rfl, ho, h1, h2⟩)
      · rintro _ ⟨of, p1, r, t, rfl, ho, h1, h2⟩
        have hSM : bts (fun f => allB (fun i => (sRun P wl (fun _ => 0) hr (tCp ncell nsore nheld fcell fsore fheld) i).1 f == ncell f) (n + 1)) (qF P) = bts (fun f => allB (fun k => (sRun P wl (fun _ => 0) hr (tCp ncell nsore nheld fcell fsore fheld) (k + 1)).1 f == ncell f) n) (qF P) := bts_cg (fun f hf => by
          have h0 : (sRun P wl (fun _ => 0) hr (tCp ncell nsore nheld fcell fsore fheld) 0).1 f = ncell f := cpy8 (by omega)
          rw [Bool.eq_iff_iff, allB_iff, allB_iff]
          constructor
          · intro h i hi; exact h (i + 1) (by omega)
          · intro h i hi
            cases i with
            | zero => rw [h0]; exact beq_self_eq_true _
            | succ i => exact h i (by omega))
        rw [hSM]
        dsimp only
        have hso := h1.2.2.1
        generalize (sRun P wl (fun _ => 0) hr (tCp ncell nsore nheld fcell fsore fheld) n).2.1 = so at hso ⊢
        refine zl_bind (P := fun k a => a = ((mx so k).2, nI k)) (Post := fun b => b = (mx so (qF P)).2) (qF P) (by omega) rfl ?_ ?_ ?_
        · rintro k hk _ rfl
          refine zi_f (nI_ge hk (by omega)) ?_
          dsimp only
          have i79 : ∀ x : Nat, (79 : Int32) + nI x = nI (70 + 9 + x) := fun x => by rw [show (79 : Int32) = nI 79 from rfl, nI_add]
          rw [i79, zbnd_nI (by omega) (by decide), nI_clamp (show 70 + 9 + k < 2 ^ 31 by omega)]
          refine zi_bind (zwp_mono (Q := fun v => v = (mx so k).1) ?_ ?_)
          · rcases mx_val (v := so) k with ⟨q1, q2⟩ | ⟨j, m1, m2, m3⟩
            · rw [q1, q2]; exact zi_t rfl (zwi rfl)
            · rw [m2, m3]
              refine zi_f (nI_nm1 (by omega)) ?_
              rw [i79, zbnd_nI (by omega) (by decide), nI_clamp (by omega)]
              exact zwi (hso j (by omega))
          · intro v e
            subst e
            refine zi_c (fun q => ?_) (fun q => ?_)
            · exact zwi (by rw [mx_t (by rw [← hso k hk]; exact q), nI_1]; rfl)
            · exact zwi (by rw [mx_f (by rw [← hso k hk]; exact q), nI_1]; rfl)
        · rintro _ rfl
          exact zi_t (nI_le (Nat.le_refl _) (by omega)) (zwi rfl)
        · intro b e
          refine zi_c (fun q => ?_) (fun q => ?_)
          · rw [if_pos q]
            refine zi_bind (zwp_mono m_mostOften ?_)
            intro r28 e2
            rw [mx_cg ho] at e2
            exact zwi ⟨e2, rfl, h2⟩
          rw [if_neg q]
          refine zi_c (fun q => ?_) (fun q => ?_)
          · rw [if_pos q]; exact zwi ⟨e, rfl, h2⟩
          rw [if_neg q]
          refine zi_c (fun q => ?_) (fun q => ?_)
          · rw [if_pos q]; exact zwi ⟨rfl, rfl, h2⟩
          · rw [if_neg q]; exact zwi ⟨rfl, rfl, h2⟩
