/-! MEET, ROUND, GONE, TOGETHER, QUIET -/
def allB (p : Nat → Bool) : Nat → Bool
  | 0 => true
  | n + 1 => allB p n && p n
theorem allB_iff {p : Nat → Bool} : ∀ {n : Nat}, allB p n = true ↔ ∀ k, k < n → p k = true
  | 0 => ⟨fun _ k hk => by omega, fun _ => rfl⟩
  | n + 1 => by
    unfold allB
    rw [Bool.and_eq_true, allB_iff]
    constructor
    · rintro ⟨h1, h2⟩ k hk
      by_cases he : k = n
      · rw [he]; exact h2
      · exact h1 k (by omega)
    · intro h
      exact ⟨fun k hk => h k (by omega), h n (by omega)⟩
theorem allB_cong {p q : Nat → Bool} : ∀ {n : Nat}, (∀ k, k < n → p k = q k) → allB p n = allB q n
  | 0, _ => rfl
  | n + 1, h => by unfold allB; rw [allB_cong (fun k hk => h k (by omega)), h n (by omega)]
theorem bts_all {p : Nat → Bool} {n : Nat} : bts p n = 2 ^ n - 1 ↔ allB p n = true := by
  induction n with
  | zero => simp [bts, allB]
  | succ n ih =>
    have hl := bts_lt p n
    have h2 : (2 : Nat) ^ (n + 1) = 2 ^ n + 2 ^ n := by rw [Nat.pow_succ]; omega
    have h0 : 0 < (2 : Nat) ^ n := Nat.two_pow_pos n
    unfold bts allB
    rw [Bool.and_eq_true, ← ih]
    by_cases hp : p n = true
    · rw [if_pos hp]
      constructor
      · intro h; exact ⟨by omega, hp⟩
      · rintro ⟨h, -⟩; omega
    · rw [if_neg hp]
      constructor
      · intro h; omega
      · rintro ⟨-, h⟩; exact absurd h hp
theorem c_placedAsBits {F : Nat} {cell cell2 : Nat → Int32} (hF : F ≤ 8) : f_X8_placedAsBits cell (nI F) cell2 = some (nI (bts (fun f => cell f == cell2 f) F)) := by
  unfold f_X8_placedAsBits
  refine (zl_run (s := fun k => (nI (bts (fun f => cell f == cell2 f) k), nI k)) (b := nI (bts (fun f => cell f == cell2 f) F)) F (by omega) rfl ?_ ?_).trans rfl
  · intro k hk
    show (if nI F ≤ nI k then _ else _) = _
    rw [if_neg (nI_ge hk (by omega)), zbnd_nI (by omega) (by decide), zbnd_nI (by omega) (by decide), nI_clamp (by omega)]
    by_cases h : cell k = cell2 k
    · rw [if_pos h, bts_step (by omega) (by simp [h]), nI_1]
    · rw [if_neg h, nI_1, ← bts_stay (p := fun f => cell f == cell2 f) (k := k) (by simp [h])]
  · show (if nI F ≤ nI F then _ else _) = _
    rw [if_pos (nI_le (Nat.le_refl _) (by omega))]
theorem c_isPlacedAs {F : Nat} {cell cell2 : Nat → Int32} (hF : F ≤ 8) : f_X8_isPlacedAs cell (nI F) cell2 = some (b2 (allB (fun f => cell f == cell2 f) F)) := by
  unfold f_X8_isPlacedAs
  rw [c_placedAsBits hF]
  have hlt : bts (fun f => cell f == cell2 f) F < 256 := bts_256 hF
  have h2 : (2 : Nat) ^ F ≤ 2 ^ 8 := Nat.pow_le_pow_right (by decide) hF
  show (if nI _ = ((1 : Int32) <<< (nI F &&& 31)) - 1 then _ else _) = _
  rw [one_shl F (by omega), nI_m1 _ (Nat.two_pow_pos F), b2_ite]
  congr 2
  rw [Bool.eq_iff_iff, decide_eq_true_iff, nI_eq (by omega) (by omega)]
  exact bts_all
theorem c_figuresAt {F : Nat} {cell : Nat → Int32} {c : Int32} (hF : F ≤ 8) : f_X8_figuresAt c cell (nI F) = some (nI (bts (fun f => cell f == c) F)) := by
  unfold f_X8_figuresAt
  refine (zl_run (s := fun k => (nI (bts (fun f => cell f == c) k), nI k)) (b := nI (bts (fun f => cell f == c) F)) F (by omega) rfl ?_ ?_).trans rfl
  · intro k hk
    show (if nI F ≤ nI k then _ else _) = _
    rw [if_neg (nI_ge hk (by omega)), zbnd_nI (by omega) (by decide), nI_clamp (by omega)]
    by_cases h : cell k = c
    · rw [if_pos h, bts_step (by omega) (by simp [h]), nI_1]
    · rw [if_neg h, nI_1, ← bts_stay (p := fun f => cell f == c) (k := k) (by simp [h])]
  · show (if nI F ≤ nI F then _ else _) = _
    rw [if_pos (nI_le (Nat.le_refl _) (by omega))]
theorem m_areAsNow {F : Nat} {rows : Nat → Int32} (hF : F ≤ 8) : f_X12_areAsNow (nI F) rows = some (b2 (allB (fun f => rows (70 + 1 + f) == rows (0 + 1 + f)) F)) := by
  unfold f_X12_areAsNow
  refine (zl_run (s := fun k => (b2 (allB (fun f => rows (70 + 1 + f) == rows (0 + 1 + f)) k), nI k)) (b := b2 (allB (fun f => rows (70 + 1 + f) == rows (0 + 1 + f)) F)) F (by omega) rfl ?_ ?_).trans b2_bol
  · intro k hk
    show (if nI F ≤ nI k then _ else _) = _
    rw [if_neg (nI_ge hk (by omega)), ix71, show (1 : Int32) + nI k = nI (0 + 1 + k) by rw [show (1 : Int32) = nI 1 from rfl, nI_add], zbnd_nI (by omega) (by decide), zbnd_nI (by omega) (by decide), nI_clamp (by omega), nI_clamp (by omega), nI_1, b2_ite]
    cases h : allB (fun f => rows (70 + 1 + f) == rows (0 + 1 + f)) k with
    | false =>
      rw [if_pos (by decide)]
      show some (Sum.inl ((0 : Int32), nI (k + 1))) = some (Sum.inl (b2 (allB _ k && _), nI (k + 1)))
      rw [h]; rfl
    | true =>
      rw [if_neg (by decide)]
      show some (Sum.inl (b2 _, nI (k + 1))) = some (Sum.inl (b2 (allB _ k && _), nI (k + 1)))
      rw [h, Bool.true_and]
      rfl
  · show (if nI F ≤ nI F then _ else _) = _
    rw [if_pos (nI_le (Nat.le_refl _) (by omega))]
theorem c_meet {P : Pl} (hP : plOk P) {hr pn wl : Nat} {ncell nsore nheld nlead fcell fsore fheld flead vals gst hst : Nat → Int32} {ffig fhr fpn : Int32} {fwl : Int64} {rows : Nat → Int32} (hN : NowR P hr pn wl ncell nsore nheld nlead rows) {a1 a2 : Int32} : zwp (f_X11_meet a1 a2 fcell ffig fheld fhr flead fpn fsore fwl vals ncell (nI (qF P)) nheld (nI hr) nlead (nI pn) nsore (lN wl) (qDb P) (nI (qF P)) (qGc P) (nI (qGn P)) gst (nI (qH P)) (qHc P) (nI (qHn P)) hst (qLt P) (nI (qNl P)) (qSt P) (qWy P) (nI (qW P))) (fun r => r.1 = toN (cond (okN (qF P) a1) (cond (okN (qF P) a2) (some (if a1 = a2 then -1 else fstI (fun k => (sRun P wl (fun _ => 0) hr (tCp ncell nsore nheld fcell fsore fheld) k).1 a1.toNatClampNeg == (sRun P wl (fun _ => 0) hr (tCp ncell nsore nheld fcell fsore fheld) k).1 a2.toNatClampNeg) 0 101)) none) none)) := by
  have hF := hP.2.2.2.2.1
  have hWH := hP.wh
  unfold f_X11_meet
  refine zi_beq (c_checkFigure (F := qF P) (by omega)) ?_
  cases hc0 : okN (qF P) a1 with
  | false => exact zwi rfl
  | true =>
    refine zi_beq (c_checkFigure (F := qF P) (by omega)) ?_
    cases hc1 : okN (qF P) a2 with
    | false => exact zwi rfl
    | true =>
      obtain ⟨na1, ha1, rfl⟩ := okN_t hc0
      obtain ⟨na2, ha2, rfl⟩ := okN_t hc1
      rw [nI_clamp (show na1 < 2 ^ 31 by omega), nI_clamp (show na2 < 2 ^ 31 by omega)]
      by_cases hne : nI na1 = nI na2
      · refine zi_t hne (zwi ?_)
        rw [if_pos hne]; rfl
      refine zi_f hne ?_
      rw [if_neg hne]
      refine zi_bind (zwp_mono (c_foresee hP (n := 0) (by omega) (by have := hN.2.2.1; omega) hN.2.2.2.2.2.2.2.2 (hN.wl63 hP) hN.tk) ?_)
      rintro ⟨o3, o4, o5, o6, o7, o8, o9, o10, o11, o12, o13⟩ ⟨e1, e2, e3, e4, e5, e6, e7⟩
      dsimp only at e1 e2 e3 e4 e5 e6 e7
      subst e1 e2 e3 e4 e6 e7
      generalize hp : (fun k => (sRun P wl (fun _ => 0) hr (tCp ncell nsore nheld fcell fsore fheld) k).1 na1 == (sRun P wl (fun _ => 0) hr (tCp ncell nsore nheld fcell fsore fheld) k).1 na2) = p
      have hpk : ∀ k, p k = ((sRun P wl (fun _ => 0) hr (tCp ncell nsore nheld fcell fsore fheld) k).1 na1 == (sRun P wl (fun _ => 0) hr (tCp ncell nsore nheld fcell fsore fheld) k).1 na2) := fun k => by rw [← hp]
      refine zl_bs (P := fun k a => (∃ v g h, a = (nI k, (sRun P wl (fun _ => 0) hr (tCp ncell nsore nheld fcell fsore fheld) k).1, (sRun P wl (fun _ => 0) hr (tCp ncell nsore nheld fcell fsore fheld) k).2.2, nI (hr + k), (sRun P wl (fun _ => 0) hr (tCp ncell nsore nheld fcell fsore fheld) k).2.1, v, g, h)) ∧ fstI p 0 101 = fstI p k (101 - k)) (Post := fun _ => fstI p 0 101 = -1) 101 (by decide) ⟨⟨o11, o12, o13, rfl⟩, rfl⟩ ?_ ?_ ?_
      · rintro k hk _ ⟨⟨v, g, h, rfl⟩, hfs⟩
        refine zi_f (by rw [show (100 : Int32) = nI 100 from rfl]; exact nI_nlt (by omega) (by omega)) ?_
        rw [zbnd_nI (by omega) (by decide), zbnd_nI (by omega) (by decide)]
        rw [show 101 - k = (100 - k) + 1 by omega] at hfs
        refine zi_c (fun q => ?_) (fun q => ?_)
        · refine zwi ?_
          show Sum.inl (nI k) = toN (some _)
          rw [hfs, fstI_t (by rw [hpk]; simp [q])]; rfl
        · rw [fstI_f (lo := k) (by rw [hpk]; simp [q])] at hfs
          refine zi_bind (zwp_mono (c_futK hP (ld := fun _ => 0) (by have := hN.2.2.1; omega) (fun f hf => ⟨e5 f hf, by omega⟩) (hN.wl63 hP) (tCp_ok hP hN.tk)) ?_)
          rintro ⟨q1, q2, q3, q4, q5, q6, q7⟩ ⟨g1, g2, g3, g4⟩
          dsimp only at g1 g2 g3 g4
          subst g1 g2 g3 g4
          refine zwi ⟨⟨q5, q6, q7, by rw [nI_1]⟩, ?_⟩
          rw [hfs]; congr 1; omega
      · rintro _ ⟨⟨v, g, h, rfl⟩, hfs⟩
        exact zi_t (by decide) (zwi hfs)
      · rintro ⟨y1, y2, y3, y4, y5, y6, y7⟩ hfs
        refine zwi ?_
        rw [hfs]; rfl
theorem m_meet {P : Pl} (hP : plOk P) {hr pn wl : Nat} {ncell nsore nheld nlead fcell fsore fheld : Nat → Int32} {mwl mways mlight mcode rows mtold mpile : Nat → Int32} {mga mha mthr : Int32} (hm : mPl P mwl mways mlight mcode mga mha) (hN : NowR P hr pn wl ncell nsore nheld nlead rows) {a1 a2 : Int32} : zwp (f_X12_meet a1 a2 mcode (qDb P) (-1 : Int32) (nI (qF P)) mga mha mlight (nI (qNl P)) mpile rows (nI (qH P)) mthr mtold mwl mways (nI (qW P))) (fun r => r.1 = toW (cond (okN (qF P) a1) (cond (okN (qF P) a2) (some (if a1 = a2 then -1 else fstI (fun k => (sRun P wl (fun _ => 0) hr (tCp ncell nsore nheld fcell fsore fheld) k).1 a1.toNatClampNeg == (sRun P wl (fun _ => 0) hr (tCp ncell nsore nheld fcell fsore fheld) k).1 a2.toNatClampNeg) 0 101)) none) none) ∧ r.2.2.2.1 = toU (cond (okN (qF P) a1) (cond (okN (qF P) a2) (some (if a1 = a2 then -1 else fstI (fun k => (sRun P wl (fun _ => 0) hr (tCp ncell nsore nheld fcell fsore fheld) k).1 a1.toNatClampNeg == (sRun P wl (fun _ => 0) hr (tCp ncell nsore nheld fcell fsore fheld) k).1 a2.toNatClampNeg) 0 101)) none) none) ∧ ∀ k, k < 70 → r.2.2.1 k = rows k) := by
  have hF := hP.2.2.2.2.1
  have hWH := hP.wh
  unfold f_X12_meet
  refine zi_beq (m_isFigure (F := qF P) (by omega)) ?_
  cases hc0 : okN (qF P) a1 with
  | false => exact zi_t rfl (zwi ⟨rfl, rfl, fun _ _ => rfl⟩)
  | true =>
    refine zi_f (by decide) ?_
    refine zi_beq (m_isFigure (F := qF P) (by omega)) ?_
    cases hc1 : okN (qF P) a2 with
    | false => exact zi_t rfl (zwi ⟨rfl, rfl, fun _ _ => rfl⟩)
    | true =>
      refine zi_f (by decide) ?_
      obtain ⟨na1, ha1, rfl⟩ := okN_t hc0
      obtain ⟨na2, ha2, rfl⟩ := okN_t hc1
      rw [nI_clamp (show na1 < 2 ^ 31 by omega), nI_clamp (show na2 < 2 ^ 31 by omega)]
      refine zi_bind (zwp_mono m_tries ?_)
      intro r0 ⟨t1, t2⟩
      have hR0 := rRow_tcp hP (fcell := fcell) (fsore := fsore) (fheld := fheld) hN.1 t2
      by_cases hne : nI na1 = nI na2
      · rw [if_pos hne]
        refine zl_bs (P := fun k a => k = 0 ∧ a = (nI 0, mpile, r0, mtold)) (Post := fun b => b = (mpile, r0, mtold)) 0 (by decide) ⟨rfl, rfl⟩ (fun k hk => by omega) ?_ ?_
        · rintro _ ⟨-, rfl⟩
          exact zi_f (by decide) (zi_t hne (zwi rfl))
        · rintro _ rfl
          exact zwi ⟨rfl, rfl, t1⟩
      rw [if_neg hne]
      generalize hp : (fun k => (sRun P wl (fun _ => 0) hr (tCp ncell nsore nheld fcell fsore fheld) k).1 na1 == (sRun P wl (fun _ => 0) hr (tCp ncell nsore nheld fcell fsore fheld) k).1 na2) = p
      have hpk : ∀ k, p k = ((sRun P wl (fun _ => 0) hr (tCp ncell nsore nheld fcell fsore fheld) k).1 na1 == (sRun P wl (fun _ => 0) hr (tCp ncell nsore nheld fcell fsore fheld) k).1 na2) := fun k => by rw [← hp]
      refine zl_bs (P := fun k a => (∃ p r t, a = (nI k, p, r, t) ∧ rRow (qF P) 70 r (hr + k) (sRun P wl (fun _ => 0) hr (tCp ncell nsore nheld fcell fsore fheld) k).1 (sRun P wl (fun _ => 0) hr (tCp ncell nsore nheld fcell fsore fheld) k).2.1 (sRun P wl (fun _ => 0) hr (tCp ncell nsore nheld fcell fsore fheld) k).2.2 (fun _ => 0) wl ∧ ∀ j, j < 70 → r j = rows j) ∧ fstI p 0 101 = fstI p k (101 - k)) (Post := fun b => fstI p 0 101 = -1 ∧ ∀ j, j < 70 → b.2.1 j = rows j) 101 (by decide) ⟨⟨mpile, r0, mtold, rfl, hR0, t1⟩, rfl⟩ ?_ ?_ ?_
      · rintro k hk _ ⟨⟨p1, r, t, rfl, h1, h2⟩, hfs⟩
        refine zi_f (by rw [show (100 : Int32) = nI 100 from rfl]; exact nI_nlt (by omega) (by omega)) ?_
        refine zi_f hne ?_
        rw [ix71, ix71, zbnd_nI (by omega) (by decide), zbnd_nI (by omega) (by decide), nI_clamp (by omega), nI_clamp (by omega), h1.2.1 na1 ha1, h1.2.1 na2 ha2]
        rw [show 101 - k = (100 - k) + 1 by omega] at hfs
        refine zi_c (fun q => ?_) (fun q => ?_)
        · refine zwi ⟨?_, rfl, h2⟩
          show nI k = fstI p 0 101
          rw [hfs, fstI_t (by rw [hpk]; simp [q])]
        · rw [fstI_f (lo := k) (by rw [hpk]; simp [q])] at hfs
          refine zi_bind (zwp_mono (m_hourK hP hm h1 (by have := hN.2.2.1; omega) (fun f _ => by omega) (tCp_ok hP hN.tk)) ?_)
          rintro ⟨q1, q2, q3⟩ ⟨g1, g2⟩
          dsimp only at g1 g2
          refine zwi ⟨⟨q1, q2, q3, by rw [nI_1], g1, fun j hj => (g2 j hj).trans (h2 j hj)⟩, ?_⟩
          rw [hfs]; congr 1; omega
      · rintro _ ⟨⟨p1, r, t, rfl, h1, h2⟩, hfs⟩
        exact zi_t (by decide) (zwi ⟨hfs, h2⟩)
      · rintro ⟨y1, y2, y3⟩ ⟨hfs, h2⟩
        exact zwi ⟨hfs.symm, rfl, h2⟩
theorem c_round {P : Pl} (hP : plOk P) {hr pn wl : Nat} {ncell nsore nheld nlead fcell fsore fheld flead vals gst hst : Nat → Int32} {ffig fhr fpn : Int32} {fwl : Int64} {rows : Nat → Int32} (hN : NowR P hr pn wl ncell nsore nheld nlead rows) : zwp (f_X11_round fcell ffig fheld fhr flead fpn fsore fwl vals ncell (nI (qF P)) nheld (nI hr) nlead (nI pn) nsore (lN wl) (qDb P) (nI (qF P)) (qGc P) (nI (qGn P)) gst (nI (qH P)) (qHc P) (nI (qHn P)) hst (qLt P) (nI (qNl P)) (qSt P) (qWy P) (nI (qW P))) (fun r => r.1 = fstI (fun k => allB (fun f => (sRun P wl (fun _ => 0) hr (tCp ncell nsore nheld fcell fsore fheld) k).1 f == ncell f) (qF P)) 1 200) := by
  have hF := hP.2.2.2.2.1
  have hWH := hP.wh
  unfold f_X11_round
  refine zi_bind (zwp_mono (c_foresee hP (n := 0) (by omega) (by have := hN.2.2.1; omega) hN.2.2.2.2.2.2.2.2 (hN.wl63 hP) hN.tk) ?_)
  rintro ⟨o3, o4, o5, o6, o7, o8, o9, o10, o11, o12, o13⟩ ⟨e1, e2, e3, e4, e5, e6, e7⟩
  dsimp only at e1 e2 e3 e4 e5 e6 e7
  subst e1 e2 e3 e4 e6 e7
  generalize hp : (fun k => allB (fun f => (sRun P wl (fun _ => 0) hr (tCp ncell nsore nheld fcell fsore fheld) k).1 f == ncell f) (qF P)) = p
  have hpk : ∀ k, p k = allB (fun f => (sRun P wl (fun _ => 0) hr (tCp ncell nsore nheld fcell fsore fheld) k).1 f == ncell f) (qF P) := fun k => by rw [← hp]
  refine zl_bs (P := fun k a => (∃ v g h, a = (nI (k + 1), (sRun P wl (fun _ => 0) hr (tCp ncell nsore nheld fcell fsore fheld) k).1, (sRun P wl (fun _ => 0) hr (tCp ncell nsore nheld fcell fsore fheld) k).2.2, nI (hr + k), (sRun P wl (fun _ => 0) hr (tCp ncell nsore nheld fcell fsore fheld) k).2.1, v, g, h)) ∧ fstI p 1 200 = fstI p (k + 1) (200 - k)) (Post := fun _ => fstI p 1 200 = -1) 200 (by decide) ⟨⟨o11, o12, o13, rfl⟩, rfl⟩ ?_ ?_ ?_
  · rintro k hk _ ⟨⟨v, g, h, rfl⟩, hfs⟩
    refine zi_f (by rw [show (200 : Int32) = nI 200 from rfl]; exact nI_nlt (by omega) (by omega)) ?_
    rw [show 200 - k = (199 - k) + 1 by omega] at hfs
    refine zi_bind (zwp_mono (c_futK hP (ld := fun _ => 0) (by have := hN.2.2.1; omega) (fun f hf => ⟨e5 f hf, by omega⟩) (hN.wl63 hP) (tCp_ok hP hN.tk)) ?_)
    rintro ⟨q1, q2, q3, q4, q5, q6, q7⟩ ⟨g1, g2, g3, g4⟩
    dsimp only at g1 g2 g3 g4
    subst g1 g2 g3 g4
    refine zi_beq (c_isPlacedAs hF) ?_
    refine zi_c (fun q => ?_) (fun q => ?_)
    · rw [fstI_f (lo := k + 1) (by rw [hpk]; rw [b2_0] at q; rw [show (sRun P wl (fun _ => 0) hr (tCp ncell nsore nheld fcell fsore fheld) (k + 1)).1 = _ from rfl, Bool.not_eq_true]; exact q)] at hfs
      refine zwi ⟨⟨q5, q6, q7, by rw [nI_1]⟩, ?_⟩
      rw [hfs]; congr 1; omega
    · refine zwi ?_
      show nI (k + 1) = _
      rw [hfs, fstI_t (by rw [hpk]; exact b2_n0 q)]
  · rintro _ ⟨⟨v, g, h, rfl⟩, hfs⟩
    exact zi_t (by decide) (zwi hfs)
  · rintro ⟨y1, y2, y3, y4, y5, y6, y7⟩ hfs
    exact zwi hfs.symm
theorem m_round {P : Pl} (hP : plOk P) {hr pn wl : Nat} {ncell nsore nheld nlead fcell fsore fheld : Nat → Int32} {mwl mways mlight mcode rows mtold mpile : Nat → Int32} {mga mha mthr : Int32} (hm : mPl P mwl mways mlight mcode mga mha) (hN : NowR P hr pn wl ncell nsore nheld nlead rows) : zwp (f_X12_round mcode (qDb P) (-1 : Int32) (nI (qF P)) mga mha mlight (nI (qNl P)) mpile rows (nI (qH P)) mthr mtold mwl mways (nI (qW P))) (fun r => r.1 = fstI (fun k => allB (fun f => (sRun P wl (fun _ => 0) hr (tCp ncell nsore nheld fcell fsore fheld) k).1 f == ncell f) (qF P)) 1 200 ∧ r.2.2.2.1 = 0 ∧ ∀ k, k < 70 → r.2.2.1 k = rows k) := by
  have hF := hP.2.2.2.2.1
  have hWH := hP.wh
  unfold f_X12_round
  refine zi_bind (zwp_mono m_tries ?_)
  intro r0 ⟨t1, t2⟩
  have hR0 := rRow_tcp hP (fcell := fcell) (fsore := fsore) (fheld := fheld) hN.1 t2
  generalize hp : (fun k => allB (fun f => (sRun P wl (fun _ => 0) hr (tCp ncell nsore nheld fcell fsore fheld) k).1 f == ncell f) (qF P)) = p
  have hpk : ∀ k, p k = allB (fun f => (sRun P wl (fun _ => 0) hr (tCp ncell nsore nheld fcell fsore fheld) k).1 f == ncell f) (qF P) := fun k => by rw [← hp]
  refine zl_bs (P := fun k a => (∃ p r t, a = (nI (k + 1), p, r, t) ∧ rRow (qF P) 70 r (hr + k) (sRun P wl (fun _ => 0) hr (tCp ncell nsore nheld fcell fsore fheld) k).1 (sRun P wl (fun _ => 0) hr (tCp ncell nsore nheld fcell fsore fheld) k).2.1 (sRun P wl (fun _ => 0) hr (tCp ncell nsore nheld fcell fsore fheld) k).2.2 (fun _ => 0) wl ∧ ∀ j, j < 70 → r j = rows j) ∧ fstI p 1 200 = fstI p (k + 1) (200 - k)) (Post := fun b => fstI p 1 200 = -1 ∧ ∀ j, j < 70 → b.2.1 j = rows j) 200 (by decide) ⟨⟨mpile, r0, mtold, rfl, hR0, t1⟩, rfl⟩ ?_ ?_ ?_
  · rintro k hk _ ⟨⟨p1, r, t, rfl, h1, h2⟩, hfs⟩
    refine zi_f (by rw [show (200 : Int32) = nI 200 from rfl]; exact nI_nlt (by omega) (by omega)) ?_
    rw [show 200 - k = (199 - k) + 1 by omega] at hfs
    refine zi_bind (zwp_mono (m_hourK hP hm h1 (by have := hN.2.2.1; omega) (fun f _ => by omega) (tCp_ok hP hN.tk)) ?_)
    rintro ⟨q1, q2, q3⟩ ⟨g1, g2⟩
    dsimp only at g1 g2
    refine zi_beq (m_areAsNow hF) ?_
    have ea : allB (fun f => q2 (70 + 1 + f) == q2 (0 + 1 + f)) (qF P) = p (k + 1) := by
      rw [hpk]
      refine allB_cong (fun f hf => ?_)
      rw [g1.2.1 f hf, g2 _ (by omega), h2 _ (by omega), hN.1.2.1 f hf]
    rw [ea]
    refine zi_c (fun q => ?_) (fun q => ?_)
    · rw [fstI_f (lo := k + 1) (by rw [b2_0] at q; rw [q]; decide)] at hfs
      refine zwi ⟨⟨q1, q2, q3, by rw [nI_1], g1, fun j hj => (g2 j hj).trans (h2 j hj)⟩, ?_⟩
      rw [hfs]; congr 1; omega
    · refine zwi ⟨?_, rfl, fun j hj => (g2 j hj).trans (h2 j hj)⟩
      show nI (k + 1) = _
      rw [hfs, fstI_t (b2_n0 q)]
  · rintro _ ⟨⟨p1, r, t, rfl, h1, h2⟩, hfs⟩
    exact zi_t (by decide) (zwi ⟨hfs, h2⟩)
  · rintro ⟨y1, y2, y3⟩ ⟨hfs, h2⟩
    exact zwi ⟨hfs.symm, rfl, h2⟩
theorem c_gone {P : Pl} (hP : plOk P) {hr pn wl : Nat} {ncell nsore nheld nlead fcell fsore fheld flead vals gst hst : Nat → Int32} {ffig fhr fpn : Int32} {fwl : Int64} {rows : Nat → Int32} (hN : NowR P hr pn wl ncell nsore nheld nlead rows) {a1 a2 : Int32} : zwp (f_X11_gone a1 a2 fcell ffig fheld fhr flead fpn fsore fwl vals ncell (nI (qF P)) nheld (nI hr) nlead (nI pn) nsore (lN wl) (qDb P) (nI (qF P)) (qGc P) (nI (qGn P)) gst (nI (qH P)) (qHc P) (nI (qHn P)) hst (qLt P) (nI (qNl P)) (qSt P) (qWy P) (nI (qW P))) (fun r => r.1 = toC (cond (okN (qF P) a1) (cond (inR 0 100 a2) (.inl (nI (fb_ct (fun k => !((sRun P wl (fun _ => 0) hr (tCp ncell nsore nheld fcell fsore fheld) (k + 1)).1 a1.toNatClampNeg == (sRun P wl (fun _ => 0) hr (tCp ncell nsore nheld fcell fsore fheld) k).1 a1.toNatClampNeg)) a2.toNatClampNeg))) (.inr true)) (.inr false))) := by
  have hF := hP.2.2.2.2.1
  have hWH := hP.wh
  unfold f_X11_gone
  refine zi_beq (c_checkFigure (F := qF P) (by omega)) ?_
  cases hc0 : okN (qF P) a1 with
  | false => exact zwi rfl
  | true =>
    refine zi_beq (c_checkHours (lo := 0) (hi := 100) (by decide) (by decide)) ?_
    cases hc1 : inR 0 100 a2 with
    | false => exact zwi rfl
    | true =>
      obtain ⟨na1, ha1, rfl⟩ := okN_t hc0
      obtain ⟨na2, la2, ha2, rfl⟩ := inR_t hc1
      rw [nI_clamp (show na1 < 2 ^ 31 by omega), nI_clamp (show na2 < 2 ^ 31 by omega)]
      refine zi_bind (zwp_mono (c_foresee hP (n := 0) (by omega) (by have := hN.2.2.1; omega) hN.2.2.2.2.2.2.2.2 (hN.wl63 hP) hN.tk) ?_)
      rintro ⟨o3, o4, o5, o6, o7, o8, o9, o10, o11, o12, o13⟩ ⟨e1, e2, e3, e4, e5, e6, e7⟩
      dsimp only at e1 e2 e3 e4 e5 e6 e7
      subst e1 e2 e3 e4 e6 e7
      generalize hp : (fun k => !((sRun P wl (fun _ => 0) hr (tCp ncell nsore nheld fcell fsore fheld) (k + 1)).1 na1 == (sRun P wl (fun _ => 0) hr (tCp ncell nsore nheld fcell fsore fheld) k).1 na1)) = p
      have hpk : ∀ k, p k = (!((sRun P wl (fun _ => 0) hr (tCp ncell nsore nheld fcell fsore fheld) (k + 1)).1 na1 == (sRun P wl (fun _ => 0) hr (tCp ncell nsore nheld fcell fsore fheld) k).1 na1)) := fun k => by rw [← hp]
      refine zl_bind (P := fun k a => ∃ v g h, a = (nI (fb_ct p k), nI k, (sRun P wl (fun _ => 0) hr (tCp ncell nsore nheld fcell fsore fheld) k).1, (sRun P wl (fun _ => 0) hr (tCp ncell nsore nheld fcell fsore fheld) k).2.2, nI (hr + k), (sRun P wl (fun _ => 0) hr (tCp ncell nsore nheld fcell fsore fheld) k).2.1, v, g, h)) (Post := fun b => b.1 = nI (fb_ct p na2)) na2 (by omega) ⟨o11, o12, o13, rfl⟩ ?_ ?_ ?_
      · rintro k hk _ ⟨v, g, h, rfl⟩
        refine zi_f (nI_ge hk (by omega)) ?_
        have hct : nI (fb_ct p k) + b2 (p k) = nI (fb_ct p (k + 1)) := by
          rw [fb_ct_succ]
          cases p k with
          | true => exact nI_1 _
          | false => rw [b2_f, show (0 : Int32) = nI 0 from rfl, nI_add]; rfl
        rw [zbnd_nI (by omega) (by decide)]
        refine zi_bind (zwp_mono (c_futK hP (ld := fun _ => 0) (by have := hN.2.2.1; omega) (fun f hf => ⟨e5 f hf, by omega⟩) (hN.wl63 hP) (tCp_ok hP hN.tk)) ?_)
        rintro ⟨q1, q2, q3, q4, q5, q6, q7⟩ ⟨g1, g2, g3, g4⟩
        dsimp only at g1 g2 g3 g4
        subst g1 g2 g3 g4
        dsimp only
        rw [zbnd_nI (by omega) (by decide)]
        refine zi_c (fun q => ?_) (fun q => ?_)
        · refine zwi ⟨q5, q6, q7, ?_⟩
          rw [show p k = false by rw [hpk]; first | simpa using q | simp [q]] at hct
          rw [nI_1 k, ← hct]
          rw [b2_f, show (0 : Int32) = nI 0 from rfl, nI_add]; rfl
        · refine zwi ⟨q5, q6, q7, ?_⟩
          rw [show p k = true by rw [hpk]; first | simpa using q | simp [q]] at hct
          rw [nI_1 k, ← hct]
          rfl
      · rintro _ ⟨v, g, h, rfl⟩
        exact zi_t (nI_le (Nat.le_refl _) (by omega)) (zwi rfl)
      · rintro ⟨y0, y1, y2, y3, y4, y5, y6, y7⟩ hy
        refine zwi ?_
        show Sum.inl y0 = _
        rw [show y0 = _ from hy]; rfl
theorem m_gone {P : Pl} (hP : plOk P) {hr pn wl : Nat} {ncell nsore nheld nlead fcell fsore fheld : Nat → Int32} {mwl mways mlight mcode rows mtold mpile : Nat → Int32} {mga mha mthr : Int32} (hm : mPl P mwl mways mlight mcode mga mha) (hN : NowR P hr pn wl ncell nsore nheld nlead rows) {a1 a2 : Int32} : zwp (f_X12_gone a1 a2 mcode (qDb P) (-1 : Int32) (nI (qF P)) mga mha mlight (nI (qNl P)) mpile rows (nI (qH P)) mthr mtold mwl mways (nI (qW P))) (fun r => r.1 = toV (cond (okN (qF P) a1) (cond (inR 0 100 a2) (.inl (nI (fb_ct (fun k => !((sRun P wl (fun _ => 0) hr (tCp ncell nsore nheld fcell fsore fheld) (k + 1)).1 a1.toNatClampNeg == (sRun P wl (fun _ => 0) hr (tCp ncell nsore nheld fcell fsore fheld) k).1 a1.toNatClampNeg)) a2.toNatClampNeg))) (.inr true)) (.inr false)) ∧ r.2.2.2.1 = toT (cond (okN (qF P) a1) (cond (inR 0 100 a2) (.inl (nI (fb_ct (fun k => !((sRun P wl (fun _ => 0) hr (tCp ncell nsore nheld fcell fsore fheld) (k + 1)).1 a1.toNatClampNeg == (sRun P wl (fun _ => 0) hr (tCp ncell nsore nheld fcell fsore fheld) k).1 a1.toNatClampNeg)) a2.toNatClampNeg))) (.inr true)) (.inr false)) ∧ ∀ k, k < 70 → r.2.2.1 k = rows k) := by
  have hF := hP.2.2.2.2.1
  have hWH := hP.wh
  unfold f_X12_gone
  refine zi_beq (m_isFigure (F := qF P) (by omega)) ?_
  cases hc0 : okN (qF P) a1 with
  | false => exact zi_t rfl (zwi ⟨rfl, rfl, fun _ _ => rfl⟩)
  | true =>
    refine zi_f (by decide) ?_
    refine zi_beq (m_isSoon (lo := 0) (w := 2) (by decide) (by decide)) ?_
    cases hc1 : inR 0 100 a2 with
    | false => exact zi_t rfl (zwi ⟨rfl, rfl, fun _ _ => rfl⟩)
    | true =>
      refine zi_f (by decide) ?_
      obtain ⟨na1, ha1, rfl⟩ := okN_t hc0
      obtain ⟨na2, la2, ha2, rfl⟩ := inR_t hc1
      rw [nI_clamp (show na1 < 2 ^ 31 by omega), nI_clamp (show na2 < 2 ^ 31 by omega)]
      refine zi_bind (zwp_mono m_tries ?_)
      intro r0 ⟨t1, t2⟩
      have hR0 := rRow_tcp hP (fcell := fcell) (fsore := fsore) (fheld := fheld) hN.1 t2
      generalize hp : (fun k => !((sRun P wl (fun _ => 0) hr (tCp ncell nsore nheld fcell fsore fheld) (k + 1)).1 na1 == (sRun P wl (fun _ => 0) hr (tCp ncell nsore nheld fcell fsore fheld) k).1 na1)) = p
      have hpk : ∀ k, p k = (!((sRun P wl (fun _ => 0) hr (tCp ncell nsore nheld fcell fsore fheld) (k + 1)).1 na1 == (sRun P wl (fun _ => 0) hr (tCp ncell nsore nheld fcell fsore fheld) k).1 na1)) := fun k => by rw [← hp]
      refine zl_bind (P := fun k a => ∃ p1 r t, a = (nI (fb_ct p k), nI k, p1, r, t) ∧ rRow (qF P) 70 r (hr + k) (sRun P wl (fun _ => 0) hr (tCp ncell nsore nheld fcell fsore fheld) k).1 (sRun P wl (fun _ => 0) hr (tCp ncell nsore nheld fcell fsore fheld) k).2.1 (sRun P wl (fun _ => 0) hr (tCp ncell nsore nheld fcell fsore fheld) k).2.2 (fun _ => 0) wl ∧ ∀ j, j < 70 → r j = rows j) (Post := fun b => b.1 = nI (fb_ct p na2) ∧ ∀ j, j < 70 → b.2.2.1 j = rows j) na2 (by omega) ⟨mpile, r0, mtold, rfl, hR0, t1⟩ ?_ ?_ ?_
      · rintro k hk _ ⟨p1, r, t, rfl, h1, h2⟩
        refine zi_f (nI_ge hk (by omega)) ?_
        have hct : nI (fb_ct p k) + b2 (p k) = nI (fb_ct p (k + 1)) := by
          rw [fb_ct_succ]
          cases p k with
          | true => exact nI_1 _
          | false => rw [b2_f, show (0 : Int32) = nI 0 from rfl, nI_add]; rfl
        rw [ix71, zbnd_nI (by omega) (by decide)]
        refine zi_bind (zwp_mono (m_hourK hP hm h1 (by have := hN.2.2.1; omega) (fun f _ => by omega) (tCp_ok hP hN.tk)) ?_)
        rintro ⟨q1, q2, q3⟩ ⟨g1, g2⟩
        dsimp only at g1 g2
        dsimp only
        rw [zbnd_nI (by omega) (by decide), nI_clamp (by omega), g1.2.1 na1 ha1, h1.2.1 na1 ha1]
        refine zi_beq (a := b2 (p k)) ?_ (zwi ⟨q1, q2, q3, by rw [hct, nI_1], g1, fun j hj => (g2 j hj).trans (h2 j hj)⟩)
        rw [b2_iten, hpk]
        rfl
      · rintro _ ⟨p1, r, t, rfl, h1, h2⟩
        exact zi_t (nI_le (Nat.le_refl _) (by omega)) (zwi ⟨rfl, h2⟩)
      · rintro ⟨y1, y2, y3, y4⟩ ⟨hy, h2⟩
        exact zwi ⟨hy, rfl, h2⟩
theorem c_together {P : Pl} (hP : plOk P) {hr pn wl : Nat} {ncell nsore nheld nlead fcell fsore fheld flead vals gst hst : Nat → Int32} {ffig fhr fpn : Int32} {fwl : Int64} {rows : Nat → Int32} (hN : NowR P hr pn wl ncell nsore nheld nlead rows) {a1 a2 a3 : Int32} : zwp (f_X11_together a1 a2 a3 fcell ffig fheld fhr flead fpn fsore fwl vals ncell (nI (qF P)) nheld (nI hr) nlead (nI pn) nsore (lN wl) (qDb P) (nI (qF P)) (qGc P) (nI (qGn P)) gst (nI (qH P)) (qHc P) (nI (qHn P)) hst (qLt P) (nI (qNl P)) (qSt P) (qWy P) (nI (qW P))) (fun r => r.1 = toC (cond (okN (qF P) a1) (cond (okN (qF P) a2) (cond (inR 1 100 a3) (.inl (nI (fb_ct (fun k => (sRun P wl (fun _ => 0) hr (tCp ncell nsore nheld fcell fsore fheld) (k + 1)).1 a1.toNatClampNeg == (sRun P wl (fun _ => 0) hr (tCp ncell nsore nheld fcell fsore fheld) (k + 1)).1 a2.toNatClampNeg) a3.toNatClampNeg))) (.inr true)) (.inr false)) (.inr false))) := by
  have hF := hP.2.2.2.2.1
  have hWH := hP.wh
  unfold f_X11_together
  refine zi_beq (c_checkFigure (F := qF P) (by omega)) ?_
  cases hc0 : okN (qF P) a1 with
  | false => exact zwi rfl
  | true =>
    refine zi_beq (c_checkFigure (F := qF P) (by omega)) ?_
    cases hc1 : okN (qF P) a2 with
    | false => exact zwi rfl
    | true =>
      refine zi_beq (c_checkHours (lo := 1) (hi := 100) (by decide) (by decide)) ?_
      cases hc2 : inR 1 100 a3 with
      | false => exact zwi rfl
      | true =>
        obtain ⟨na1, ha1, rfl⟩ := okN_t hc0
        obtain ⟨na2, ha2, rfl⟩ := okN_t hc1
        obtain ⟨na3, la3, ha3, rfl⟩ := inR_t hc2
        rw [nI_clamp (show na1 < 2 ^ 31 by omega), nI_clamp (show na2 < 2 ^ 31 by omega), nI_clamp (show na3 < 2 ^ 31 by omega)]
        refine zi_bind (zwp_mono (c_foresee hP (n := 0) (by omega) (by have := hN.2.2.1; omega) hN.2.2.2.2.2.2.2.2 (hN.wl63 hP) hN.tk) ?_)
        rintro ⟨o3, o4, o5, o6, o7, o8, o9, o10, o11, o12, o13⟩ ⟨e1, e2, e3, e4, e5, e6, e7⟩
        dsimp only at e1 e2 e3 e4 e5 e6 e7
        subst e1 e2 e3 e4 e6 e7
        generalize hp : (fun k => (sRun P wl (fun _ => 0) hr (tCp ncell nsore nheld fcell fsore fheld) (k + 1)).1 na1 == (sRun P wl (fun _ => 0) hr (tCp ncell nsore nheld fcell fsore fheld) (k + 1)).1 na2) = p
        have hpk : ∀ k, p k = ((sRun P wl (fun _ => 0) hr (tCp ncell nsore nheld fcell fsore fheld) (k + 1)).1 na1 == (sRun P wl (fun _ => 0) hr (tCp ncell nsore nheld fcell fsore fheld) (k + 1)).1 na2) := fun k => by rw [← hp]
        refine zl_bind (P := fun k a => ∃ v g h, a = (nI (fb_ct p k), nI k, (sRun P wl (fun _ => 0) hr (tCp ncell nsore nheld fcell fsore fheld) k).1, (sRun P wl (fun _ => 0) hr (tCp ncell nsore nheld fcell fsore fheld) k).2.2, nI (hr + k), (sRun P wl (fun _ => 0) hr (tCp ncell nsore nheld fcell fsore fheld) k).2.1, v, g, h)) (Post := fun b => b.1 = nI (fb_ct p na3)) na3 (by omega) ⟨o11, o12, o13, rfl⟩ ?_ ?_ ?_
        · rintro k hk _ ⟨v, g, h, rfl⟩
          refine zi_f (nI_ge hk (by omega)) ?_
          have hct : nI (fb_ct p k) + b2 (p k) = nI (fb_ct p (k + 1)) := by
            rw [fb_ct_succ]
            cases p k with
            | true => exact nI_1 _
            | false => rw [b2_f, show (0 : Int32) = nI 0 from rfl, nI_add]; rfl
          refine zi_bind (zwp_mono (c_futK hP (ld := fun _ => 0) (by have := hN.2.2.1; omega) (fun f hf => ⟨e5 f hf, by omega⟩) (hN.wl63 hP) (tCp_ok hP hN.tk)) ?_)
          rintro ⟨q1, q2, q3, q4, q5, q6, q7⟩ ⟨g1, g2, g3, g4⟩
          dsimp only at g1 g2 g3 g4
          subst g1 g2 g3 g4
          dsimp only
          rw [zbnd_nI (by omega) (by decide), zbnd_nI (by omega) (by decide)]
          refine zi_c (fun q => ?_) (fun q => ?_)
          · refine zwi ⟨q5, q6, q7, ?_⟩
            rw [show p k = true by rw [hpk]; first | simpa using q | simp [q]] at hct
            rw [nI_1 k, ← hct]
            rfl
          · refine zwi ⟨q5, q6, q7, ?_⟩
            rw [show p k = false by rw [hpk]; first | simpa using q | simp [q]] at hct
            rw [nI_1 k, ← hct]
            rw [b2_f, show (0 : Int32) = nI 0 from rfl, nI_add]; rfl
        · rintro _ ⟨v, g, h, rfl⟩
          exact zi_t (nI_le (Nat.le_refl _) (by omega)) (zwi rfl)
        · rintro ⟨y0, y1, y2, y3, y4, y5, y6, y7⟩ hy
          refine zwi ?_
          show Sum.inl y0 = _
          rw [show y0 = _ from hy]; rfl
theorem m_together {P : Pl} (hP : plOk P) {hr pn wl : Nat} {ncell nsore nheld nlead fcell fsore fheld : Nat → Int32} {mwl mways mlight mcode rows mtold mpile : Nat → Int32} {mga mha mthr : Int32} (hm : mPl P mwl mways mlight mcode mga mha) (hN : NowR P hr pn wl ncell nsore nheld nlead rows) {a1 a2 a3 : Int32} : zwp (f_X12_together a1 a2 a3 mcode (qDb P) (-1 : Int32) (nI (qF P)) mga mha mlight (nI (qNl P)) mpile rows (nI (qH P)) mthr mtold mwl mways (nI (qW P))) (fun r => r.1 = toV (cond (okN (qF P) a1) (cond (okN (qF P) a2) (cond (inR 1 100 a3) (.inl (nI (fb_ct (fun k => (sRun P wl (fun _ => 0) hr (tCp ncell nsore nheld fcell fsore fheld) (k + 1)).1 a1.toNatClampNeg == (sRun P wl (fun _ => 0) hr (tCp ncell nsore nheld fcell fsore fheld) (k + 1)).1 a2.toNatClampNeg) a3.toNatClampNeg))) (.inr true)) (.inr false)) (.inr false)) ∧ r.2.2.2.1 = toT (cond (okN (qF P) a1) (cond (okN (qF P) a2) (cond (inR 1 100 a3) (.inl (nI (fb_ct (fun k => (sRun P wl (fun _ => 0) hr (tCp ncell nsore nheld fcell fsore fheld) (k + 1)).1 a1.toNatClampNeg == (sRun P wl (fun _ => 0) hr (tCp ncell nsore nheld fcell fsore fheld) (k + 1)).1 a2.toNatClampNeg) a3.toNatClampNeg))) (.inr true)) (.inr false)) (.inr false)) ∧ ∀ k, k < 70 → r.2.2.1 k = rows k) := by
  have hF := hP.2.2.2.2.1
  have hWH := hP.wh
  unfold f_X12_together
  refine zi_beq (m_isFigure (F := qF P) (by omega)) ?_
  cases hc0 : okN (qF P) a1 with
  | false => exact zi_t rfl (zwi ⟨rfl, rfl, fun _ _ => rfl⟩)
  | true =>
    refine zi_f (by decide) ?_
    refine zi_beq (m_isFigure (F := qF P) (by omega)) ?_
    cases hc1 : okN (qF P) a2 with
    | false => exact zi_t rfl (zwi ⟨rfl, rfl, fun _ _ => rfl⟩)
    | true =>
      refine zi_f (by decide) ?_
      refine zi_beq (m_isSoon (lo := 1) (w := 2) (by decide) (by decide)) ?_
      cases hc2 : inR 1 100 a3 with
      | false => exact zi_t rfl (zwi ⟨rfl, rfl, fun _ _ => rfl⟩)
      | true =>
        refine zi_f (by decide) ?_
        obtain ⟨na1, ha1, rfl⟩ := okN_t hc0
        obtain ⟨na2, ha2, rfl⟩ := okN_t hc1
        obtain ⟨na3, la3, ha3, rfl⟩ := inR_t hc2
        rw [nI_clamp (show na1 < 2 ^ 31 by omega), nI_clamp (show na2 < 2 ^ 31 by omega), nI_clamp (show na3 < 2 ^ 31 by omega)]
        refine zi_bind (zwp_mono m_tries ?_)
        intro r0 ⟨t1, t2⟩
        have hR0 := rRow_tcp hP (fcell := fcell) (fsore := fsore) (fheld := fheld) hN.1 t2
        generalize hp : (fun k => (sRun P wl (fun _ => 0) hr (tCp ncell nsore nheld fcell fsore fheld) (k + 1)).1 na1 == (sRun P wl (fun _ => 0) hr (tCp ncell nsore nheld fcell fsore fheld) (k + 1)).1 na2) = p
        have hpk : ∀ k, p k = ((sRun P wl (fun _ => 0) hr (tCp ncell nsore nheld fcell fsore fheld) (k + 1)).1 na1 == (sRun P wl (fun _ => 0) hr (tCp ncell nsore nheld fcell fsore fheld) (k + 1)).1 na2) := fun k => by rw [← hp]
        refine zl_bind (P := fun k a => ∃ p1 r t, a = (nI (fb_ct p k), nI k, p1, r, t) ∧ rRow (qF P) 70 r (hr + k) (sRun P wl (fun _ => 0) hr (tCp ncell nsore nheld fcell fsore fheld) k).1 (sRun P wl (fun _ => 0) hr (tCp ncell nsore nheld fcell fsore fheld) k).2.1 (sRun P wl (fun _ => 0) hr (tCp ncell nsore nheld fcell fsore fheld) k).2.2 (fun _ => 0) wl ∧ ∀ j, j < 70 → r j = rows j) (Post := fun b => b.1 = nI (fb_ct p na3) ∧ ∀ j, j < 70 → b.2.2.1 j = rows j) na3 (by omega) ⟨mpile, r0, mtold, rfl, hR0, t1⟩ ?_ ?_ ?_
        · rintro k hk _ ⟨p1, r, t, rfl, h1, h2⟩
          refine zi_f (nI_ge hk (by omega)) ?_
          have hct : nI (fb_ct p k) + b2 (p k) = nI (fb_ct p (k + 1)) := by
            rw [fb_ct_succ]
            cases p k with
            | true => exact nI_1 _
            | false => rw [b2_f, show (0 : Int32) = nI 0 from rfl, nI_add]; rfl
          refine zi_bind (zwp_mono (m_hourK hP hm h1 (by have := hN.2.2.1; omega) (fun f _ => by omega) (tCp_ok hP hN.tk)) ?_)
          rintro ⟨q1, q2, q3⟩ ⟨g1, g2⟩
          dsimp only at g1 g2
          dsimp only
          rw [ix71, ix71, zbnd_nI (by omega) (by decide), zbnd_nI (by omega) (by decide), nI_clamp (by omega), nI_clamp (by omega), g1.2.1 na1 ha1, g1.2.1 na2 ha2]
          refine zi_beq (a := b2 (p k)) ?_ (zwi ⟨q1, q2, q3, by rw [hct, nI_1], g1, fun j hj => (g2 j hj).trans (h2 j hj)⟩)
          rw [b2_ite, hpk]
          rfl
        · rintro _ ⟨p1, r, t, rfl, h1, h2⟩
          exact zi_t (nI_le (Nat.le_refl _) (by omega)) (zwi ⟨rfl, h2⟩)
        · rintro ⟨y1, y2, y3, y4⟩ ⟨hy, h2⟩
          exact zwi ⟨hy, rfl, h2⟩
theorem c_quiet {P : Pl} (hP : plOk P) {hr pn wl : Nat} {ncell nsore nheld nlead fcell fsore fheld flead vals gst hst : Nat → Int32} {ffig fhr fpn : Int32} {fwl : Int64} {rows : Nat → Int32} (hN : NowR P hr pn wl ncell nsore nheld nlead rows) {a1 a2 : Int32} : zwp (f_X11_quiet a1 a2 fcell ffig fheld fhr flead fpn fsore fwl vals ncell (nI (qF P)) nheld (nI hr) nlead (nI pn) nsore (lN wl) (qDb P) (nI (qF P)) (qGc P) (nI (qGn P)) gst (nI (qH P)) (qHc P) (nI (qHn P)) hst (qLt P) (nI (qNl P)) (qSt P) (qWy P) (nI (qW P))) (fun r => r.1 = toC (cond (okN (qW P * qH P) a1) (cond (inR 1 100 a2) (.inl (nI (fb_ct (fun k => bts (fun f => (sRun P wl (fun _ => 0) hr (tCp ncell nsore nheld fcell fsore fheld) (k + 1)).1 f == a1) (qF P) == 0) a2.toNatClampNeg))) (.inr true)) (.inr false))) := by
  have hF := hP.2.2.2.2.1
  have hWH := hP.wh
  unfold f_X11_quiet
  refine zi_beq (c_checkCell (W := qW P) (H := qH P) (by omega)) ?_
  cases hc0 : okN (qW P * qH P) a1 with
  | false => exact zwi rfl
  | true =>
    refine zi_beq (c_checkHours (lo := 1) (hi := 100) (by decide) (by decide)) ?_
    cases hc1 : inR 1 100 a2 with
    | false => exact zwi rfl
    | true =>
      obtain ⟨na1, ha1, rfl⟩ := okN_t hc0
      obtain ⟨na2, la2, ha2, rfl⟩ := inR_t hc1
      rw [nI_clamp (show na2 < 2 ^ 31 by omega)]
      refine zi_bind (zwp_mono (c_foresee hP (n := 0) (by omega) (by have := hN.2.2.1; omega) hN.2.2.2.2.2.2.2.2 (hN.wl63 hP) hN.tk) ?_)
      rintro ⟨o3, o4, o5, o6, o7, o8, o9, o10, o11, o12, o13⟩ ⟨e1, e2, e3, e4, e5, e6, e7⟩
      dsimp only at e1 e2 e3 e4 e5 e6 e7
      subst e1 e2 e3 e4 e6 e7
      generalize hp : (fun k => bts (fun f => (sRun P wl (fun _ => 0) hr (tCp ncell nsore nheld fcell fsore fheld) (k + 1)).1 f == nI na1) (qF P) == 0) = p
      have hpk : ∀ k, p k = (bts (fun f => (sRun P wl (fun _ => 0) hr (tCp ncell nsore nheld fcell fsore fheld) (k + 1)).1 f == nI na1) (qF P) == 0) := fun k => by rw [← hp]
      refine zl_bind (P := fun k a => ∃ v g h, a = (nI (fb_ct p k), nI k, (sRun P wl (fun _ => 0) hr (tCp ncell nsore nheld fcell fsore fheld) k).1, (sRun P wl (fun _ => 0) hr (tCp ncell nsore nheld fcell fsore fheld) k).2.2, nI (hr + k), (sRun P wl (fun _ => 0) hr (tCp ncell nsore nheld fcell fsore fheld) k).2.1, v, g, h)) (Post := fun b => b.1 = nI (fb_ct p na2)) na2 (by omega) ⟨o11, o12, o13, rfl⟩ ?_ ?_ ?_
      · rintro k hk _ ⟨v, g, h, rfl⟩
        refine zi_f (nI_ge hk (by omega)) ?_
        have hct : nI (fb_ct p k) + b2 (p k) = nI (fb_ct p (k + 1)) := by
          rw [fb_ct_succ]
          cases p k with
          | true => exact nI_1 _
          | false => rw [b2_f, show (0 : Int32) = nI 0 from rfl, nI_add]; rfl
        refine zi_bind (zwp_mono (c_futK hP (ld := fun _ => 0) (by have := hN.2.2.1; omega) (fun f hf => ⟨e5 f hf, by omega⟩) (hN.wl63 hP) (tCp_ok hP hN.tk)) ?_)
        rintro ⟨q1, q2, q3, q4, q5, q6, q7⟩ ⟨g1, g2, g3, g4⟩
        dsimp only at g1 g2 g3 g4
        subst g1 g2 g3 g4
        dsimp only
        refine zi_beq (c_figuresAt hF) ?_
        refine zi_c (fun q => ?_) (fun q => ?_)
        · refine zwi ⟨q5, q6, q7, ?_⟩
          rw [show p k = true by rw [hpk]; first | exact beq_iff_eq.mpr ((nI_eq (Nat.lt_trans (bts_256 hF) (by decide)) (by decide)).mp q) | exact beq_eq_false_iff_ne.mpr (fun e => q (by rw [show (0 : Int32) = nI 0 from rfl, nI_eq (Nat.lt_trans (bts_256 hF) (by decide)) (by decide)]; exact e))] at hct
          rw [nI_1 k, ← hct]
          rfl
        · refine zwi ⟨q5, q6, q7, ?_⟩
          rw [show p k = false by rw [hpk]; first | exact beq_iff_eq.mpr ((nI_eq (Nat.lt_trans (bts_256 hF) (by decide)) (by decide)).mp q) | exact beq_eq_false_iff_ne.mpr (fun e => q (by rw [show (0 : Int32) = nI 0 from rfl, nI_eq (Nat.lt_trans (bts_256 hF) (by decide)) (by decide)]; exact e))] at hct
          rw [nI_1 k, ← hct]
          rw [b2_f, show (0 : Int32) = nI 0 from rfl, nI_add]; rfl
      · rintro _ ⟨v, g, h, rfl⟩
        exact zi_t (nI_le (Nat.le_refl _) (by omega)) (zwi rfl)
      · rintro ⟨y0, y1, y2, y3, y4, y5, y6, y7⟩ hy
        refine zwi ?_
        show Sum.inl y0 = _
        rw [show y0 = _ from hy]; rfl
theorem m_quiet {P : Pl} (hP : plOk P) {hr pn wl : Nat} {ncell nsore nheld nlead fcell fsore fheld : Nat → Int32} {mwl mways mlight mcode rows mtold mpile : Nat → Int32} {mga mha mthr : Int32} (hm : mPl P mwl mways mlight mcode mga mha) (hN : NowR P hr pn wl ncell nsore nheld nlead rows) {a1 a2 : Int32} : zwp (f_X12_quiet a1 a2 mcode (qDb P) (-1 : Int32) (nI (qF P)) mga mha mlight (nI (qNl P)) mpile rows (nI (qH P)) mthr mtold mwl mways (nI (qW P))) (fun r => r.1 = toV (cond (okN (qW P * qH P) a1) (cond (inR 1 100 a2) (.inl (nI (fb_ct (fun k => bts (fun f => (sRun P wl (fun _ => 0) hr (tCp ncell nsore nheld fcell fsore fheld) (k + 1)).1 f == a1) (qF P) == 0) a2.toNatClampNeg))) (.inr true)) (.inr false)) ∧ r.2.2.2.1 = toT (cond (okN (qW P * qH P) a1) (cond (inR 1 100 a2) (.inl (nI (fb_ct (fun k => bts (fun f => (sRun P wl (fun _ => 0) hr (tCp ncell nsore nheld fcell fsore fheld) (k + 1)).1 f == a1) (qF P) == 0) a2.toNatClampNeg))) (.inr true)) (.inr false)) ∧ ∀ k, k < 70 → r.2.2.1 k = rows k) := by
  have hF := hP.2.2.2.2.1
  have hWH := hP.wh
  unfold f_X12_quiet
  refine zi_beq (m_isCell (W := qW P) (H := qH P) (by omega)) ?_
  cases hc0 : okN (qW P * qH P) a1 with
  | false => exact zi_t rfl (zwi ⟨rfl, rfl, fun _ _ => rfl⟩)
  | true =>
    refine zi_f (by decide) ?_
    refine zi_beq (m_isSoon (lo := 1) (w := 2) (by decide) (by decide)) ?_
    cases hc1 : inR 1 100 a2 with
    | false => exact zi_t rfl (zwi ⟨rfl, rfl, fun _ _ => rfl⟩)
    | true =>
      refine zi_f (by decide) ?_
      obtain ⟨na1, ha1, rfl⟩ := okN_t hc0
      obtain ⟨na2, la2, ha2, rfl⟩ := inR_t hc1
      rw [nI_clamp (show na2 < 2 ^ 31 by omega)]
      refine zi_bind (zwp_mono m_tries ?_)
      intro r0 ⟨t1, t2⟩
      have hR0 := rRow_tcp hP (fcell := fcell) (fsore := fsore) (fheld := fheld) hN.1 t2
      generalize hp : (fun k => bts (fun f => (sRun P wl (fun _ => 0) hr (tCp ncell nsore nheld fcell fsore fheld) (k + 1)).1 f == nI na1) (qF P) == 0) = p
      have hpk : ∀ k, p k = (bts (fun f => (sRun P wl (fun _ => 0) hr (tCp ncell nsore nheld fcell fsore fheld) (k + 1)).1 f == nI na1) (qF P) == 0) := fun k => by rw [← hp]
      refine zl_bind (P := fun k a => ∃ p1 r t, a = (nI (fb_ct p k), nI k, p1, r, t) ∧ rRow (qF P) 70 r (hr + k) (sRun P wl (fun _ => 0) hr (tCp ncell nsore nheld fcell fsore fheld) k).1 (sRun P wl (fun _ => 0) hr (tCp ncell nsore nheld fcell fsore fheld) k).2.1 (sRun P wl (fun _ => 0) hr (tCp ncell nsore nheld fcell fsore fheld) k).2.2 (fun _ => 0) wl ∧ ∀ j, j < 70 → r j = rows j) (Post := fun b => b.1 = nI (fb_ct p na2) ∧ ∀ j, j < 70 → b.2.2.1 j = rows j) na2 (by omega) ⟨mpile, r0, mtold, rfl, hR0, t1⟩ ?_ ?_ ?_
      · rintro k hk _ ⟨p1, r, t, rfl, h1, h2⟩
        refine zi_f (nI_ge hk (by omega)) ?_
        have hct : nI (fb_ct p k) + b2 (p k) = nI (fb_ct p (k + 1)) := by
          rw [fb_ct_succ]
          cases p k with
          | true => exact nI_1 _
          | false => rw [b2_f, show (0 : Int32) = nI 0 from rfl, nI_add]; rfl
        refine zi_bind (zwp_mono (m_hourK hP hm h1 (by have := hN.2.2.1; omega) (fun f _ => by omega) (tCp_ok hP hN.tk)) ?_)
        rintro ⟨q1, q2, q3⟩ ⟨g1, g2⟩
        dsimp only at g1 g2
        dsimp only
        refine zi_beq (m_atCell (b := 70) hF (Nat.le_refl _) g1.2.1) ?_
        refine zi_beq (a := b2 (p k)) ?_ (zwi ⟨q1, q2, q3, by rw [hct, nI_1], g1, fun j hj => (g2 j hj).trans (h2 j hj)⟩)
        rw [b2_ite, hpk]
        congr 2
        rw [Bool.eq_iff_iff, decide_eq_true_iff, show (0 : Int32) = nI 0 from rfl, nI_eq (Nat.lt_trans (bts_256 hF) (by decide)) (by decide), beq_iff_eq]
      · rintro _ ⟨p1, r, t, rfl, h1, h2⟩
        exact zi_t (nI_le (Nat.le_refl _) (by omega)) (zwi ⟨rfl, h2⟩)
      · rintro ⟨y1, y2, y3, y4⟩ ⟨hy, h2⟩
        exact zwi ⟨hy, rfl, h2⟩
