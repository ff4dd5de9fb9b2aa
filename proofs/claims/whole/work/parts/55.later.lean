/-! LATER: busiest, sorest, alone, stuck (class) -/
theorem bts_and {p q : Nat → Bool} {n : Nat} : nI (bts p n) &&& nI (bts q n) = nI (bts (fun k => p k && q k) n) := by
  rw [fa_and]
  congr 1
  apply Nat.eq_of_testBit_eq
  intro i
  rw [Nat.testBit_and, bts_bit, bts_bit, bts_bit]
  cases decide (i < n) <;> cases p i <;> cases q i <;> rfl
def alB (F : Nat) (cell : Nat → Int32) (f : Nat) : Bool := sWith F cell f == 0
theorem c_aloneBits {F : Nat} {cell : Nat → Int32} (hF : F ≤ 8) : f_X8_aloneBits cell (nI F) = some (nI (bts (alB F cell) F)) := by
  unfold f_X8_aloneBits
  refine (zl_run (s := fun k => (nI (bts (alB F cell) k), nI k)) (b := nI (bts (alB F cell) F)) F (by omega) rfl ?_ ?_).trans rfl
  · intro k hk
    show (if nI F ≤ nI k then _ else _) = _
    rw [if_neg (nI_ge hk (by omega)), c_othersWith hF hk]
    have hle : sWith F cell k ≤ F := Nat.le_trans (Nat.sub_le _ _) (fb_ct_le _ _)
    show (if nI (sWith F cell k) = 0 then _ else _) = _
    by_cases h : sWith F cell k = 0
    · rw [if_pos (by rw [h]; rfl), bts_step (by omega) (by unfold alB; rw [h]; rfl), nI_1]
    · rw [if_neg (show ¬ nI (sWith F cell k) = 0 from nI_ne (b := 0) (by omega) (by omega) h), nI_1, ← bts_stay (p := alB F cell) (k := k) (beq_false_of_ne h)]
  · show (if nI F ≤ nI F then _ else _) = _
    rw [if_pos (nI_le (Nat.le_refl _) (by omega))]
/-- how often a cell was stood on after so many hours -/
def sVis (F : Nat) (cl : Nat → Nat → Int32) : Nat → Nat → Int32
  | 0, _ => 0
  | k + 1, j => sVis F cl k j + nI (cnt F (cl (k + 1)) j)
theorem ones_all : ∀ n, n ≤ 8 → ((1 : Int32) <<< (nI n &&& 31)) - 1 = nI (bts (fun _ => true) n) := by decide +kernel
theorem c_sorest {P : Pl} (hP : plOk P) {hr pn wl : Nat} {ncell nsore nheld nlead fcell fsore fheld flead vals gst hst : Nat → Int32} {ffig fhr fpn : Int32} {fwl : Int64} {rows : Nat → Int32} (hN : NowR P hr pn wl ncell nsore nheld nlead rows) {n : Nat} (hn : n ≤ 100) : zwp (f_X11_sorest (nI n) fcell ffig fheld fhr flead fpn fsore fwl vals ncell (nI (qF P)) nheld (nI hr) nlead (nI pn) nsore (lN wl) (qDb P) (nI (qF P)) (qGc P) (nI (qGn P)) gst (nI (qH P)) (qHc P) (nI (qHn P)) hst (qLt P) (nI (qNl P)) (qSt P) (qWy P) (nI (qW P))) (fun r => r.1 = (mx (sRun P wl (fun _ => 0) hr (tCp ncell nsore nheld fcell fsore fheld) n).2.1 (qF P)).2) := by
  have hF := hP.2.2.2.2.1
  have hWH := hP.wh
  unfold f_X11_sorest
  refine zi_bind (zwp_mono (c_foresee hP (n := n) (by omega) (by have := hN.2.2.1; omega) hN.2.2.2.2.2.2.2.2 (hN.wl63 hP) hN.tk) ?_)
  rintro ⟨o3, o4, o5, o6, o7, o8, o9, o10, o11, o12, o13⟩ ⟨e1, e2, e3, e4, e5, e6, e7⟩
  dsimp only at e1 e2 e3 e4 e5 e6 e7
  subst e1 e2 e3 e4 e6 e7
  generalize (sRun P wl (fun _ => 0) hr (tCp ncell nsore nheld fcell fsore fheld) n).2.1 = so
  refine zl_bind (P := fun k a => a = ((mx so k).1, (mx so k).2, nI k)) (Post := fun b => b = (mx so (qF P)).2) (qF P) (by omega) rfl ?_ ?_ ?_
  · rintro k hk _ rfl
    refine zi_f (nI_ge hk (by omega)) ?_
    rw [zbnd_nI (by omega) (by decide), zbnd_nI (by omega) (by decide), nI_clamp (by omega)]
    refine zi_c (fun q => ?_) (fun q => ?_)
    · exact zwi (by rw [mx_t q, nI_1]; rfl)
    · exact zwi (by rw [mx_f q, nI_1]; rfl)
  · rintro _ rfl
    exact zi_t (nI_le (Nat.le_refl _) (by omega)) (zwi rfl)
  · intro b e; exact zwi e
theorem c_alone {P : Pl} (hP : plOk P) {hr pn wl : Nat} {ncell nsore nheld nlead fcell fsore fheld flead vals gst hst : Nat → Int32} {ffig fhr fpn : Int32} {fwl : Int64} {rows : Nat → Int32} (hN : NowR P hr pn wl ncell nsore nheld nlead rows) {n : Nat} (hn : n ≤ 100) : zwp (f_X11_alone (nI n) fcell ffig fheld fhr flead fpn fsore fwl vals ncell (nI (qF P)) nheld (nI hr) nlead (nI pn) nsore (lN wl) (qDb P) (nI (qF P)) (qGc P) (nI (qGn P)) gst (nI (qH P)) (qHc P) (nI (qHn P)) hst (qLt P) (nI (qNl P)) (qSt P) (qWy P) (nI (qW P))) (fun r => r.1 = nI (bts (fun f => allB (fun k => alB (qF P) (sRun P wl (fun _ => 0) hr (tCp ncell nsore nheld fcell fsore fheld) k).1 f) (n + 1)) (qF P))) := by
  have hF := hP.2.2.2.2.1
  have hWH := hP.wh
  unfold f_X11_alone
  refine zi_bind (zwp_mono (c_foresee hP (n := 0) (by omega) (by have := hN.2.2.1; omega) hN.2.2.2.2.2.2.2.2 (hN.wl63 hP) hN.tk) ?_)
  rintro ⟨o3, o4, o5, o6, o7, o8, o9, o10, o11, o12, o13⟩ ⟨e1, e2, e3, e4, e5, e6, e7⟩
  dsimp only at e1 e2 e3 e4 e5 e6 e7
  subst e1 e2 e3 e4 e6 e7
  refine zi_beq (c_aloneBits hF) ?_
  refine zl_bind (P := fun k a => ∃ v g h, a = (nI (bts (fun f => allB (fun i => alB (qF P) (sRun P wl (fun _ => 0) hr (tCp ncell nsore nheld fcell fsore fheld) i).1 f) (k + 1)) (qF P)), nI k, (sRun P wl (fun _ => 0) hr (tCp ncell nsore nheld fcell fsore fheld) k).1, (sRun P wl (fun _ => 0) hr (tCp ncell nsore nheld fcell fsore fheld) k).2.2, nI (hr + k), (sRun P wl (fun _ => 0) hr (tCp ncell nsore nheld fcell fsore fheld) k).2.1, v, g, h)) (Post := fun b => b.1 = nI (bts (fun f => allB (fun k => alB (qF P) (sRun P wl (fun _ => 0) hr (tCp ncell nsore nheld fcell fsore fheld) k).1 f) (n + 1)) (qF P))) n (by omega) ⟨_, _, _, rfl⟩ ?_ ?_ ?_
  · rintro k hk _ ⟨v, g, h, rfl⟩
    refine zi_f (nI_ge hk (by omega)) ?_
    refine zi_bind (zwp_mono (c_futK hP (ld := fun _ => 0) (by have := hN.2.2.1; omega) (fun f hf => ⟨e5 f hf, by omega⟩) (hN.wl63 hP) (tCp_ok hP hN.tk)) ?_)
    rintro ⟨q1, q2, q3, q4, q5, q6, q7⟩ ⟨g1, g2, g3, g4⟩
    dsimp only at g1 g2 g3 g4
    subst g1 g2 g3 g4
    refine zi_beq (c_aloneBits hF) ?_
    rw [bts_and]
    exact zwi ⟨_, _, _, by rw [nI_1]; rfl⟩
  · rintro _ ⟨v, g, h, rfl⟩
    exact zi_t (nI_le (Nat.le_refl _) (by omega)) (zwi rfl)
  · rintro ⟨y1, y2, y3, y4, y5, y6, y7, y8⟩ e
    exact zwi e
theorem c_stuck {P : Pl} (hP : plOk P) {hr pn wl : Nat} {ncell nsore nheld nlead fcell fsore fheld flead vals gst hst : Nat → Int32} {ffig fhr fpn : Int32} {fwl : Int64} {rows : Nat → Int32} (hN : NowR P hr pn wl ncell nsore nheld nlead rows) {n : Nat} (hn : n ≤ 100) : zwp (f_X11_stuck (nI n) fcell ffig fheld fhr flead fpn fsore fwl vals ncell (nI (qF P)) nheld (nI hr) nlead (nI pn) nsore (lN wl) (qDb P) (nI (qF P)) (qGc P) (nI (qGn P)) gst (nI (qH P)) (qHc P) (nI (qHn P)) hst (qLt P) (nI (qNl P)) (qSt P) (qWy P) (nI (qW P))) (fun r => r.1 = nI (bts (fun f => allB (fun k => (sRun P wl (fun _ => 0) hr (tCp ncell nsore nheld fcell fsore fheld) (k + 1)).1 f == ncell f) n) (qF P))) := by
  have hF := hP.2.2.2.2.1
  have hWH := hP.wh
  unfold f_X11_stuck
  refine zi_bind (zwp_mono (c_foresee hP (n := 0) (by omega) (by have := hN.2.2.1; omega) hN.2.2.2.2.2.2.2.2 (hN.wl63 hP) hN.tk) ?_)
  rintro ⟨o3, o4, o5, o6, o7, o8, o9, o10, o11, o12, o13⟩ ⟨e1, e2, e3, e4, e5, e6, e7⟩
  dsimp only at e1 e2 e3 e4 e5 e6 e7
  subst e1 e2 e3 e4 e6 e7
  rw [ones_all _ hF]
  refine zl_bind (P := fun k a => ∃ v g h, a = (nI (bts (fun f => allB (fun i => (sRun P wl (fun _ => 0) hr (tCp ncell nsore nheld fcell fsore fheld) (i + 1)).1 f == ncell f) k) (qF P)), nI k, (sRun P wl (fun _ => 0) hr (tCp ncell nsore nheld fcell fsore fheld) k).1, (sRun P wl (fun _ => 0) hr (tCp ncell nsore nheld fcell fsore fheld) k).2.2, nI (hr + k), (sRun P wl (fun _ => 0) hr (tCp ncell nsore nheld fcell fsore fheld) k).2.1, v, g, h)) (Post := fun b => b.1 = nI (bts (fun f => allB (fun k => (sRun P wl (fun _ => 0) hr (tCp ncell nsore nheld fcell fsore fheld) (k + 1)).1 f == ncell f) n) (qF P))) n (by omega) ⟨_, _, _, rfl⟩ ?_ ?_ ?_
  · rintro k hk _ ⟨v, g, h, rfl⟩
    refine zi_f (nI_ge hk (by omega)) ?_
    refine zi_bind (zwp_mono (c_futK hP (ld := fun _ => 0) (by have := hN.2.2.1; omega) (fun f hf => ⟨e5 f hf, by omega⟩) (hN.wl63 hP) (tCp_ok hP hN.tk)) ?_)
    rintro ⟨q1, q2, q3, q4, q5, q6, q7⟩ ⟨g1, g2, g3, g4⟩
    dsimp only at g1 g2 g3 g4
    subst g1 g2 g3 g4
    refine zi_beq (c_placedAsBits hF) ?_
    rw [bts_and]
    exact zwi ⟨_, _, _, by rw [nI_1]; rfl⟩
  · rintro _ ⟨v, g, h, rfl⟩
    exact zi_t (nI_le (Nat.le_refl _) (by omega)) (zwi rfl)
  · rintro ⟨y1, y2, y3, y4, y5, y6, y7, y8⟩ e
    exact zwi e
theorem c_busiest {P : Pl} (hP : plOk P) {hr pn wl : Nat} {ncell nsore nheld nlead fcell fsore fheld flead vals gst hst : Nat → Int32} {ffig fhr fpn : Int32} {fwl : Int64} {rows : Nat → Int32} (hN : NowR P hr pn wl ncell nsore nheld nlead rows) {n : Nat} {vis : Nat → Int32} (hn : n ≤ 100) : zwp (f_X11_busiest (nI n) fcell ffig fheld fhr flead fpn fsore fwl vals ncell (nI (qF P)) nheld (nI hr) nlead (nI pn) nsore (lN wl) (qDb P) (nI (qF P)) (qGc P) (nI (qGn P)) gst (nI (qH P)) (qHc P) (nI (qHn P)) hst (qLt P) (nI (qNl P)) (qSt P) (qWy P) (nI (qW P)) vis) (fun r => r.1 = (mx (sVis (qF P) (fun k => (sRun P wl (fun _ => 0) hr (tCp ncell nsore nheld fcell fsore fheld) k).1) n) 36).2) := by
  have hF := hP.2.2.2.2.1
  have hWH := hP.wh
  unfold f_X11_busiest
  refine zi_bind (zwp_mono c_fill ?_)
  intro vs hvs
  refine zi_bind (zwp_mono (c_foresee hP (n := 0) (by omega) (by have := hN.2.2.1; omega) hN.2.2.2.2.2.2.2.2 (hN.wl63 hP) hN.tk) ?_)
  rintro ⟨o3, o4, o5, o6, o7, o8, o9, o10, o11, o12, o13⟩ ⟨e1, e2, e3, e4, e5, e6, e7⟩
  dsimp only at e1 e2 e3 e4 e5 e6 e7
  subst e1 e2 e3 e4 e6 e7
  have hok : ∀ k f, f < qF P → ∃ c, (sRun P wl (fun _ => 0) hr (tCp ncell nsore nheld fcell fsore fheld) k).1 f = nI c ∧ c < 36 := fun k f hf => by
    obtain ⟨c, h1, h2⟩ := (sRun_ok hP (tCp_ok hP hN.tk) k).1 f hf
    exact ⟨c, h1, by omega⟩
  refine zl_bind (P := fun k a => ∃ v g h vi, a = (nI k, (sRun P wl (fun _ => 0) hr (tCp ncell nsore nheld fcell fsore fheld) k).1, (sRun P wl (fun _ => 0) hr (tCp ncell nsore nheld fcell fsore fheld) k).2.2, nI (hr + k), (sRun P wl (fun _ => 0) hr (tCp ncell nsore nheld fcell fsore fheld) k).2.1, v, g, h, vi) ∧ ∀ j, j < 36 → vi j = sVis (qF P) (fun k => (sRun P wl (fun _ => 0) hr (tCp ncell nsore nheld fcell fsore fheld) k).1) k j) (Post := fun b => ∀ j, j < 36 → b.2.2.2.2.2.2.2 j = sVis (qF P) (fun k => (sRun P wl (fun _ => 0) hr (tCp ncell nsore nheld fcell fsore fheld) k).1) n j) n (by omega) ⟨_, _, _, _, rfl, hvs⟩ ?_ ?_ ?_
  · rintro k hk _ ⟨v, g, h, vi, rfl, hvi⟩
    refine zi_f (nI_ge hk (by omega)) ?_
    refine zi_bind (zwp_mono (c_futK hP (ld := fun _ => 0) (by have := hN.2.2.1; omega) (fun f hf => ⟨e5 f hf, by omega⟩) (hN.wl63 hP) (tCp_ok hP hN.tk)) ?_)
    rintro ⟨q1, q2, q3, q4, q5, q6, q7⟩ ⟨g1, g2, g3, g4⟩
    dsimp only at g1 g2 g3 g4
    subst g1 g2 g3 g4
    refine zl_bind (P := fun i a => ∃ r, a = (nI i, r) ∧ ∀ j, j < 36 → r j = vi j + nI (cnt i (sRun P wl (fun _ => 0) hr (tCp ncell nsore nheld fcell fsore fheld) (k + 1)).1 j)) (Post := fun r => ∀ j, j < 36 → r j = vi j + nI (cnt (qF P) (sRun P wl (fun _ => 0) hr (tCp ncell nsore nheld fcell fsore fheld) (k + 1)).1 j)) (qF P) (by omega) ⟨_, rfl, fun j hj => by show _ = vi j + nI 0; rw [show nI 0 = (0 : Int32) from rfl, Int32.add_zero]⟩ ?_ ?_ ?_
    · rintro i hi _ ⟨r, rfl, hr'⟩
      refine zi_f (nI_ge hi (by omega)) ?_
      obtain ⟨c, hc1, hc2⟩ := hok (k + 1) i hi
      rw [zbnd_nI (by omega) (by decide), nI_clamp (show i < 2 ^ 31 by omega), hc1, zbnd_nI (by omega) (by decide), zbnd_nI (by omega) (by decide), nI_clamp (show c < 2 ^ 31 by omega), nI_1]
      exact zwi ⟨_, rfl, cnt_add hc1 hc2 hr'⟩
    · rintro _ ⟨r, rfl, hr'⟩
      exact zi_t (nI_le (Nat.le_refl _) (by omega)) (zwi hr')
    · intro r hr'
      exact zwi ⟨_, _, _, _, by rw [nI_1], fun j hj => by rw [hr' j hj, hvi j hj]; rfl⟩
  · rintro _ ⟨v, g, h, vi, rfl, hvi⟩
    exact zi_t (nI_le (Nat.le_refl _) (by omega)) (zwi hvi)
  · rintro ⟨y1, y2, y3, y4, y5, y6, y7, vi⟩ hvi
    dsimp only at hvi ⊢
    rw [← mx_cg hvi]
    refine zl_bind (P := fun k a => a = ((mx vi k).1, (mx vi k).2, nI k)) (Post := fun b => b = (mx vi 36).2) 36 (by decide) rfl ?_ ?_ ?_
    · rintro k hk _ rfl
      refine zi_f (by rw [show (36 : Int32) = nI 36 from rfl]; exact nI_ge hk (by decide)) ?_
      rw [zbnd_nI (by omega) (by decide), zbnd_nI (by omega) (by decide), nI_clamp (by omega)]
      refine zi_c (fun q => ?_) (fun q => ?_)
      · exact zwi (by rw [mx_t q, nI_1]; rfl)
      · exact zwi (by rw [mx_f q, nI_1]; rfl)
    · rintro _ rfl
      generalize mx vi 36 = m
      exact zi_t (show (36 : Int32) ≤ nI 36 by decide) (zwi rfl)
    · intro b e; exact zwi e
