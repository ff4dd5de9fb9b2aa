/-! SEATS: the class -/
theorem c_worthAt {D : Nat → Nat → Option Nat} {L : Nat → Nat} {S f t s n : Nat} {best farTo : Nat → Int32} (hS : S ≤ 8) (hf : f < 8) (hs : s < S) (ht : t < 2 ^ S) (hn : n ≤ 8) (hD : ∀ v, D f s = some v → v ≤ 36) (hL : ∀ u, L u ≤ 1000 * n) (hfar : farTo (f * 8 + s) = enc (D f s)) (hb : ∀ u, u < 2 ^ S → best ((f + 1) * 256 + u) = nI (1000 * n - L u)) : f_X7_worthAt (nI f) (nI t) (nI s) best farTo = some (if sSit D f t s then nI (1000 * (n + 1) - sVal D L f t s) else -1) := by
  have h2 := two8 hS
  have hor : t ||| 2 ^ s < 2 ^ S := Nat.or_lt_two_pow ht (Nat.pow_lt_pow_right (by decide) hs)
  unfold f_X7_worthAt
  rw [show (8 : Int32) = nI 8 from rfl, pk_mul, nI_add, zbnd_nI (by omega) (by decide), nI_clamp (show f * 8 + s < 2 ^ 31 by omega), bit_sh t (by omega) s (by omega), bit_or (by omega), hfar, nI_1, show (256 : Int32) = nI 256 from rfl, pk_mul, nI_add, zbnd_nI (by omega) (by decide), nI_clamp (show (f + 1) * 256 + (t ||| 2 ^ s) < 2 ^ 31 by omega), hb _ hor]
  unfold sSit sVal
  cases ht : t.testBit s with
  | true => rfl
  | false =>
    cases hd : D f s with
    | none => rfl
    | some v =>
      have hv := hD v hd
      have hl := hL (t ||| 2 ^ s)
      rw [if_pos (show b2 false = 0 from rfl), if_neg (show ¬ enc (some v) = -1 from nI_nm1 (by omega))]
      show some (nI 1000 - nI v + nI (1000 * n - L (t ||| 2 ^ s))) = some (nI (1000 * (n + 1) - (v + L (t ||| 2 ^ s))))
      rw [pk_sub (by omega), nI_add]
      congr 2
      omega
theorem c_bestFrom {D : Nat → Nat → Option Nat} {L : Nat → Nat} {S f t n : Nat} {best farTo : Nat → Int32} (hS : S ≤ 8) (hf : f < 8) (ht : t < 2 ^ S) (hn : n ≤ 8) (hD : ∀ s v, D f s = some v → v ≤ 36) (hL : ∀ u, L u ≤ 1000 * n) (hfar : ∀ s, s < S → farTo (f * 8 + s) = enc (D f s)) (hb : ∀ u, u < 2 ^ S → best ((f + 1) * 256 + u) = nI (1000 * n - L u)) : zwp (f_X7_bestFrom (nI f) (nI t) best farTo (nI S)) (fun r => r = nI (1000 * (n + 1) - mnS D L f t S)) := by
  have h2 := two8 hS
  have hl := hL t
  unfold f_X7_bestFrom
  rw [nI_1, show (256 : Int32) = nI 256 from rfl, pk_mul, nI_add, zbnd_nI (by omega) (by decide), nI_clamp (show (f + 1) * 256 + t < 2 ^ 31 by omega), hb t ht]
  refine zl_bind (P := fun k a => a = (nI (1000 * (n + 1) - mnS D L f t k), nI k)) (Post := fun b => b = nI (1000 * (n + 1) - mnS D L f t S)) S (by omega) ?_ ?_ ?_ ?_
  · show (nI (1000 * n - L t), (0 : Int32)) = (nI (1000 * (n + 1) - (1000 + L t)), nI 0)
    rw [show 1000 * (n + 1) - (1000 + L t) = 1000 * n - L t by omega]; rfl
  · rintro k hk _ rfl
    refine zi_f (nI_ge hk (by omega)) ?_
    refine zi_beq (c_worthAt hS hf hk ht hn (hD k) hL (hfar k hk) hb) ?_
    cases hq : sSit D f t k with
    | false =>
      rw [if_neg (show ¬ (false = true) by decide), if_neg (show ¬ nI (1000 * (n + 1) - mnS D L f t k) < -1 from fun h => nI_pos (n := 1000 * (n + 1) - mnS D L f t k) (by omega) (Int32.lt_trans h (by decide)))]
      exact zwi (by show (_, _) = (_, _); rw [mnS_f hq, nI_1])
    | true =>
      rw [if_pos (show true = true from rfl)]
      refine zwi ?_
      show (_, _) = (_, _)
      rw [mnS_t hq, nI_1]
      have m1 := mnS_le (D := D) (L := L) (f := f) (t := t) k
      by_cases q : mnS D L f t k ≤ sVal D L f t k
      · rw [Nat.min_eq_left q, if_neg (nI_nlt (by omega) (by omega))]
      · rw [Nat.min_eq_right (by omega)]
        rw [if_pos (nI_lt (by omega) (by omega))]
  · rintro _ rfl
    exact zi_t (nI_le (Nat.le_refl _) (by omega)) (zwi rfl)
  · intro b e; exact zwi e
theorem m1_neg : nI 0 - 1 < 0 := by decide
theorem m1_eq (x : Int32) : x + (-1) = x - 1 := by rw [Int32.sub_eq_add_neg]
/-- ways from all figures to all seats -/
def sDis (W H wl : Nat) (cell sc : Nat → Int32) : Nat → Nat → Option Nat := fun f s => sFar W H wl (sc s).toNatClampNeg (cell f).toNatClampNeg
def sDs (P : Pl) (wl ns : Nat) (cell sc : Nat → Int32) : Nat → Nat → Option Nat := fun f s => if f < qF P ∧ s < ns then sDis (qW P) (qH P) wl cell sc f s else none
theorem sDs_in {P : Pl} {wl ns f s : Nat} {cell sc : Nat → Int32} (hf : f < qF P) (hs : s < ns) : sDs P wl ns cell sc f s = sDis (qW P) (qH P) wl cell sc f s := if_pos ⟨hf, hs⟩
theorem sDs_le {P : Pl} (hP : plOk P) {wl ns : Nat} {cell sc : Nat → Int32} (hsc : ∀ s, s < ns → ∃ c, sc s = nI c ∧ c < qW P * qH P) : ∀ f s v, sDs P wl ns cell sc f s = some v → v ≤ 36 := fun f s v h => by
  have hWH := hP.wh
  unfold sDs at h
  by_cases q : f < qF P ∧ s < ns
  · rw [if_pos q] at h
    obtain ⟨c, h1, h2⟩ := hsc s q.2
    unfold sDis at h
    rw [h1, nI_clamp (show c < 2 ^ 31 by omega)] at h
    exact (sFar_ok (by have := hP.1; omega) hWH h2 h).2
  · rw [if_neg q] at h; cases h
theorem c_measureAll {P : Pl} (hP : plOk P) {wl ns : Nat} {cell sc farTo fr qu : Nat → Int32} (hwl : wl < 2 ^ 63) (hc : clOk P cell) (hns : ns ≤ 8) (hsc : ∀ s, s < ns → ∃ c, sc s = nI c ∧ c < qW P * qH P) : zwp (f_X7_measureAll farTo (nI (qF P)) (nI (qH P)) sc (nI ns) (nI (qW P)) cell (lN wl) fr qu) (fun r => ∀ f, f < qF P → ∀ s, s < ns → r.1 (f * 8 + s) = enc (sDis (qW P) (qH P) wl cell sc f s)) := by
  have hF := hP.2.2.2.2.1
  have hWH := hP.wh
  unfold f_X7_measureAll
  refine zl_bind (P := fun k a => ∃ ft f1 q1, a = (nI k, ft, f1, q1) ∧ ∀ f, f < qF P → ∀ s, s < k → ft (f * 8 + s) = enc (sDis (qW P) (qH P) wl cell sc f s)) (Post := fun b => ∀ f, f < qF P → ∀ s, s < ns → b.1 (f * 8 + s) = enc (sDis (qW P) (qH P) wl cell sc f s)) ns (by omega) ⟨_, _, _, rfl, fun f _ s hs => by omega⟩ ?_ ?_ ?_
  · rintro k hk _ ⟨ft, f1, q1, rfl, h⟩
    refine zi_f (nI_ge hk (by omega)) ?_
    obtain ⟨c, hc1, hc2⟩ := hsc k hk
    rw [zbnd_nI (by omega) (by decide), nI_clamp (show k < 2 ^ 31 by omega), hc1]
    refine zi_bind (zwp_mono (c_measure hP.1 hP.2.1 hP.2.2.2.1 hWH hwl hc2) ?_)
    rintro ⟨o11, o12⟩ hm
    dsimp only at hm ⊢
    refine zl_bind (P := fun i a => ∃ ft, a = (nI i, ft) ∧ (∀ f, f < qF P → ∀ s, s < k → ft (f * 8 + s) = enc (sDis (qW P) (qH P) wl cell sc f s)) ∧ ∀ f, f < i → ft (f * 8 + k) = enc (sDis (qW P) (qH P) wl cell sc f k)) (Post := fun b => (∀ f, f < qF P → ∀ s, s < k → b (f * 8 + s) = enc (sDis (qW P) (qH P) wl cell sc f s)) ∧ ∀ f, f < qF P → b (f * 8 + k) = enc (sDis (qW P) (qH P) wl cell sc f k)) (qF P) (by omega) ⟨_, rfl, h, fun f hf => by omega⟩ ?_ ?_ ?_
    · rintro i hi _ ⟨ft, rfl, h1, h2⟩
      refine zi_f (nI_ge hi (by omega)) ?_
      obtain ⟨e, he1, he2⟩ := hc i hi
      rw [zbnd_nI (by omega) (by decide), nI_clamp (show i < 2 ^ 31 by omega), he1, zbnd_nI (by omega) (by decide), nI_clamp (show e < 2 ^ 31 by omega), show (8 : Int32) = nI 8 from rfl, pk_mul, nI_add, zbnd_nI (by omega) (by decide), nI_clamp (show i * 8 + k < 2 ^ 31 by omega), hm e (by omega), nI_1]
      refine zwi ⟨_, rfl, fun f hf s hs => ?_, fun f hf => ?_⟩
      · rw [pk_un (show f * 8 + s ≠ i * 8 + k by omega)]; exact h1 f hf s hs
      · by_cases q : f = i
        · subst q
          rw [pk_us]
          unfold sDis
          rw [hc1, he1, nI_clamp (show c < 2 ^ 31 by omega), nI_clamp (show e < 2 ^ 31 by omega)]
        · rw [pk_un (show f * 8 + k ≠ i * 8 + k by omega)]; exact h2 f (by omega)
    · rintro _ ⟨ft, rfl, h1, h2⟩
      exact zi_t (nI_le (Nat.le_refl _) (by omega)) (zwi ⟨h1, h2⟩)
    · intro b ⟨h1, h2⟩
      refine zwi ⟨_, _, _, by rw [nI_1], fun f hf s hs => ?_⟩
      by_cases q : s = k
      · rw [q]; exact h2 f hf
      · exact h1 f hf s (by omega)
  · rintro _ ⟨ft, f1, q1, rfl, h⟩
    exact zi_t (nI_le (Nat.le_refl _) (by omega)) (zwi h)
  · rintro ⟨y1, y2, y3⟩ h; exact zwi h
theorem c_choose {D : Nat → Nat → Option Nat} {F S : Nat} {best farTo so : Nat → Int32} {far pl : Int32} (hF : F ≤ 8) (hS : S ≤ 8) (hD : ∀ f s v, D f s = some v → v ≤ 36) (hfar : ∀ f, f < F → ∀ s, s < S → farTo (f * 8 + s) = enc (D f s)) (hb : ∀ f, f ≤ F → ∀ u, u < 2 ^ S → best (f * 256 + u) = nI (1000 * (F - f) - lst D F S (F - f) u)) : zwp (f_X7_choose best far farTo pl (nI F) (nI S) so) (fun r => r.1 = nI (sCh D F S F).2.1 ∧ r.2.1 = nI (sCh D F S F).2.2 ∧ ∀ f, f < F → r.2.2 f = sPk D F S f (sCh D F S f).1) := by
  have h2 := two8 hS
  unfold f_X7_choose
  refine zl_bind (P := fun k a => ∃ so, a = (nI (sCh D F S k).1, nI k, nI (sCh D F S k).2.1, nI (sCh D F S k).2.2, so) ∧ ∀ f, f < k → so f = sPk D F S f (sCh D F S f).1) (Post := fun b => b.1 = nI (sCh D F S F).2.1 ∧ b.2.1 = nI (sCh D F S F).2.2 ∧ ∀ f, f < F → b.2.2 f = sPk D F S f (sCh D F S f).1) F (by omega) ⟨so, rfl, fun f hf => by omega⟩ ?_ ?_ ?_
  · rintro f hf _ ⟨so, rfl, hso⟩
    refine zi_f (nI_ge hf (by omega)) ?_
    rw [zbnd_nI (by omega) (by decide)]
    have ht := (sCh_inv (F := F) hS hD f (by omega)).2.2.2
    have hF1 : F - f = F - (f + 1) + 1 := by omega
    have hbF := hb f (by omega)
    have hb1 := hb (f + 1) (by omega)
    have hll := lst_le (D := D) (F := F) (S := S) (F - f) (sCh D F S f).1
    have hSn := fun e => sCh_n (D := D) (F := F) (S := S) (f := f) e
    have hSy := fun j hj e => sCh_y (D := D) (F := F) (S := S) (f := f) (j := j) hj e
    generalize sCh D F S (f + 1) = Z at hSn hSy ⊢
    have hpk : sPk D F S f (sCh D F S f).1 = fstI (pkB D F S f (sCh D F S f).1) 0 S := rfl
    generalize hT : sCh D F S f = T at ht hSn hSy hll hpk ⊢
    obtain ⟨t, fa, pc⟩ := T
    dsimp only at ht hSn hSy hll hpk ⊢
    rw [nI_clamp (show f < 2 ^ 31 by omega)]
    refine zl_bind (P := fun s a => (a = (nI s, nI fa, nI pc, upd so f (-1)) ∧ fstI (pkB D F S f t) 0 S = fstI (pkB D F S f t) s (S - s)) ∨ ∃ j v, j < S ∧ a = (nI s, nI (fa + v), nI (pc + 1), upd (upd so f (-1)) f (nI j)) ∧ D f j = some v ∧ sPk D F S f t = nI j) (Post := fun b => (b = (nI fa, nI pc, upd so f (-1)) ∧ sPk D F S f t = -1) ∨ ∃ j v, j < S ∧ b = (nI (fa + v), nI (pc + 1), upd (upd so f (-1)) f (nI j)) ∧ D f j = some v ∧ sPk D F S f t = nI j) S (by omega) (.inl ⟨rfl, rfl⟩) ?_ ?_ ?_
    · rintro s hs _ (⟨rfl, hfs⟩ | ⟨j, v, hj, rfl, hv, hk⟩)
      · refine zi_f (nI_ge hs (by omega)) ?_
        rw [zbnd_nI (by omega) (by decide)]
        dsimp only
        refine zi_t pk_us ?_
        refine zi_beq (c_worthAt (L := lst D F S (F - (f + 1))) (n := F - (f + 1)) hS (by omega) hs ht (by omega) (hD f s) (fun u => lst_le _ _) (hfar f hf s hs) hb1) ?_
        rw [show (256 : Int32) = nI 256 from rfl, pk_mul, nI_add, zbnd_nI (by omega) (by decide), nI_clamp (show f * 256 + t < 2 ^ 31 by omega), hbF t ht]
        rw [show S - s = (S - (s + 1)) + 1 by omega] at hfs
        have hvv := lst_le (D := D) (F := F) (S := S) (F - (f + 1)) (t ||| 2 ^ s)
        cases hq : sSit D f t s with
        | false =>
          rw [if_neg (show ¬ (false = true) by decide)]
          refine zi_f (fun e => nI_nm2 (by omega) e.symm) ?_
          rw [fstI_f (lo := s) (by unfold pkB; rw [hq, Bool.false_and]; decide)] at hfs
          exact zwi (.inl ⟨by rw [nI_1], hfs⟩)
        | true =>
          rw [if_pos (show true = true from rfl)]
          have hs' : (D f s).isSome = true := by
            unfold sSit at hq
            rw [Bool.and_eq_true] at hq
            exact hq.2
          obtain ⟨v, hv2⟩ := Option.isSome_iff_exists.mp hs'
          have hv3 := hD f s v hv2
          have hsv : sVal D (lst D F S (F - (f + 1))) f t s = v + lst D F S (F - (f + 1)) (t ||| 2 ^ s) := by unfold sVal; rw [hv2]; rfl
          by_cases q : sVal D (lst D F S (F - (f + 1))) f t s = lst D F S (F - f) t
          · rw [fstI_t (lo := s) (by unfold pkB; rw [hq, q, beq_self_eq_true]; rfl)] at hfs
            refine zi_t (by rw [q, ← hF1]) ?_
            rw [zbnd_nI (by omega) (by decide), show (8 : Int32) = nI 8 from rfl, pk_mul, nI_add, zbnd_nI (by omega) (by decide), nI_clamp (show f * 8 + s < 2 ^ 31 by omega), hfar f hf s hs, hv2]
            exact zwi (.inr ⟨s, v, hs, by rw [nI_1, nI_1]; show (_, nI fa + nI v, _, _) = _; rw [nI_add], hv2, hfs⟩)
          · rw [fstI_f (lo := s) (by unfold pkB; rw [hq, beq_false_of_ne q]; decide)] at hfs
            refine zi_f (fun e => ?_) ?_
            · rw [nI_eq (by omega) (by omega)] at e
              omega
            · exact zwi (.inl ⟨by rw [nI_1], hfs⟩)
      · refine zi_f (nI_ge hs (by omega)) ?_
        rw [zbnd_nI (by omega) (by decide)]
        dsimp only
        exact zi_f (by rw [pk_us]; exact nI_nm1 (by omega)) (zwi (.inr ⟨j, v, hj, rfl, hv, hk⟩))
    · rintro _ (⟨rfl, hfs⟩ | ⟨j, v, hj, rfl, hv, hk⟩)
      · exact zi_t (nI_le (Nat.le_refl _) (by omega)) (zwi (.inl ⟨rfl, by rw [hpk, hfs, Nat.sub_self]; rfl⟩))
      · exact zi_t (nI_le (Nat.le_refl _) (by omega)) (zwi (.inr ⟨j, v, hj, rfl, hv, hk⟩))
    · rintro _ (⟨rfl, hk⟩ | ⟨j, v, hj, rfl, hv, hk⟩)
      · dsimp only
        rw [zbnd_nI (by omega) (by decide)]
        rw [hSn hk]
        refine zi_bind (zi_t pk_us (zwi (zwi ⟨_, by rw [nI_1], fun g hg => ?_⟩)))
        by_cases q : g = f
        · subst q; rw [pk_us, hT]; exact hk.symm
        · rw [pk_un q]; exact hso g (by omega)
      · dsimp only
        rw [zbnd_nI (by omega) (by decide)]
        rw [hSy j (by omega) hk, hv]
        refine zi_bind (zi_f (by rw [pk_us]; exact nI_nm1 (by omega)) ?_)
        rw [zbnd_nI (by omega) (by decide), pk_us, bit_or (by omega)]
        refine zwi (zwi ⟨_, by rw [nI_1]; rfl, fun g hg => ?_⟩)
        by_cases q : g = f
        · subst q; rw [pk_us, hT]; exact hk.symm
        · rw [pk_un q, pk_un q]; exact hso g (by omega)
  · rintro _ ⟨so, rfl, hso⟩
    exact zi_t (nI_le (Nat.le_refl _) (by omega)) (zwi ⟨rfl, rfl, hso⟩)
  · rintro ⟨y1, y2, y3⟩ h; exact zwi h
theorem c_place {P : Pl} (hP : plOk P) {wl ns : Nat} {cell sc best farTo so fr qu : Nat → Int32} {far pl : Int32} (hwl : wl < 2 ^ 63) (hc : clOk P cell) (hns : ns ≤ 8) (hsc : ∀ s, s < ns → ∃ c, sc s = nI c ∧ c < qW P * qH P) : zwp (f_X7_place best far farTo pl (nI (qF P)) (nI (qH P)) sc (nI ns) (nI (qW P)) so cell (lN wl) fr qu) (fun r => r.2.1 = nI (sCh (sDs P wl ns cell sc) (qF P) ns (qF P)).2.1 ∧ r.2.2.2.1 = nI (sCh (sDs P wl ns cell sc) (qF P) ns (qF P)).2.2 ∧ ∀ f, f < qF P → r.2.2.2.2.1 f = sPk (sDs P wl ns cell sc) (qF P) ns f (sCh (sDs P wl ns cell sc) (qF P) ns f).1) := by
  have hF := hP.2.2.2.2.1
  unfold f_X7_place
  refine zi_bind (zwp_mono (c_measureAll hP hwl hc hns hsc) ?_)
  rintro ⟨o1, o2, o3⟩ hfar0
  have hfar : ∀ f, f < qF P → ∀ s, s < ns → o1 (f * 8 + s) = enc (sDs P wl ns cell sc f s) := fun f hf s hs => by
    rw [sDs_in hf hs]; exact hfar0 f hf s hs
  clear hfar0
  have hD' := sDs_le hP (wl := wl) (cell := cell) hsc
  generalize sDs P wl ns cell sc = D at hfar hD' ⊢
  have hns2 := two8 hns
  dsimp only
  refine zi_bind (zwp_mono (c_fillN (by decide)) ?_)
  intro o4 h4
  refine zl_bind (P := fun k a => ∃ b, a = (nI (qF P - k) - 1, b) ∧ ∀ f, qF P - k ≤ f → f ≤ qF P → ∀ u, u < 2 ^ ns → b (f * 256 + u) = nI (1000 * (qF P - f) - lst D (qF P) ns (qF P - f) u)) (Post := fun b => ∀ f, f ≤ qF P → ∀ u, u < 2 ^ ns → b (f * 256 + u) = nI (1000 * (qF P - f) - lst D (qF P) ns (qF P - f) u)) (qF P) (by omega) ⟨o4, rfl, fun f h1 h2 u hu => ?_⟩ ?_ ?_ ?_
  · rw [h4 _ (by omega), show qF P - f = 0 by omega]; rfl
  · rintro k hk _ ⟨b, rfl, hb⟩
    obtain ⟨f, hf⟩ : ∃ f, f = qF P - k - 1 := ⟨_, rfl⟩
    rw [nI_m1 _ (show 0 < qF P - k by omega), ← hf]
    refine zi_f (nI_pos (by omega)) ?_
    refine zl_bind (P := fun t a => ∃ b, a = (nI t, b) ∧ (∀ g, f + 1 ≤ g → g ≤ qF P → ∀ u, u < 2 ^ ns → b (g * 256 + u) = nI (1000 * (qF P - g) - lst D (qF P) ns (qF P - g) u)) ∧ ∀ u, u < t → b (f * 256 + u) = nI (1000 * (qF P - f) - lst D (qF P) ns (qF P - f) u)) (Post := fun b => (∀ g, f + 1 ≤ g → g ≤ qF P → ∀ u, u < 2 ^ ns → b (g * 256 + u) = nI (1000 * (qF P - g) - lst D (qF P) ns (qF P - g) u)) ∧ ∀ u, u < 2 ^ ns → b (f * 256 + u) = nI (1000 * (qF P - f) - lst D (qF P) ns (qF P - f) u)) (2 ^ ns) (by omega) ⟨b, rfl, fun g h1 h2 u hu => hb g (by omega) h2 u hu, fun u hu => by omega⟩ ?_ ?_ ?_
    · rintro t ht _ ⟨b, rfl, h1, h2⟩
      refine zi_f (by rw [one_shl ns (by omega)]; exact nI_ge ht (by omega)) ?_
      refine zi_bind (zwp_mono (c_bestFrom (D := D) (L := lst D (qF P) ns (qF P - (f + 1))) (n := qF P - (f + 1)) hns (by omega) ht (by omega) (hD' f) (fun u => lst_le _ _) (hfar f (by omega)) (h1 (f + 1) (by omega) (by omega))) ?_)
      intro r18 e
      subst e
      rw [show (256 : Int32) = nI 256 from rfl, pk_mul, nI_add, zbnd_nI (by omega) (by decide), nI_clamp (show f * 256 + t < 2 ^ 31 by omega), nI_1, ← lst_s (by omega), show qF P - (f + 1) + 1 = qF P - f by omega]
      refine zwi ⟨_, rfl, fun g g1 g2 u hu => ?_, fun u hu => ?_⟩
      · rw [pk_un (show g * 256 + u ≠ f * 256 + t by omega)]; exact h1 g g1 g2 u hu
      · by_cases q : u = t
        · rw [q, pk_us]
        · rw [pk_un (show f * 256 + u ≠ f * 256 + t by omega)]; exact h2 u (by omega)
    · rintro _ ⟨b, rfl, h1, h2⟩
      exact zi_t (by rw [one_shl ns (by omega)]; exact nI_le (Nat.le_refl _) (by omega)) (zwi ⟨h1, h2⟩)
    · intro b ⟨h1, h2⟩
      refine zwi ⟨b, by rw [m1_eq, show qF P - (k + 1) = f by omega], fun g g1 g2 u hu => ?_⟩
      by_cases q : g = f
      · rw [q]; exact h2 u hu
      · exact h1 g (by omega) g2 u hu
  · rintro _ ⟨b, rfl, hb⟩
    exact zi_t (by rw [Nat.sub_self]; exact m1_neg) (zwi (fun f h1 u hu => hb f (by omega) h1 u hu))
  · intro b hb
    refine zi_bind (zwp_mono (c_choose hF hns hD' hfar hb) ?_)
    rintro ⟨o11, o12, o13⟩ h
    exact zwi h
