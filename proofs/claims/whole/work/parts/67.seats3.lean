/-! SEATS: both calls of the class, and the reference -/
theorem c_seats {P : Pl} (hP : plOk P) {hr pn wl ns : Nat} {ncell nsore nheld nlead rows sc msa : Nat → Int32} (hN : NowR P hr pn wl ncell nsore nheld nlead rows) (hS : SeatR P ns sc msa) {best farTo so fr qu : Nat → Int32} {far pl : Int32} {a1 : Int32} : zwp (f_X11_seats a1 ncell (lN wl) (nI (qF P)) (nI (qH P)) sc (nI ns) (nI (qW P)) best far farTo pl so fr qu) (fun r => r.1 = toN (cond (okN (1 + 1) a1) (some (if a1 = 0 then nI (sCh (sDs P wl ns ncell sc) (qF P) ns (qF P)).2.2 else nI (sCh (sDs P wl ns ncell sc) (qF P) ns (qF P)).2.1)) none)) := by
  have hF := hP.2.2.2.2.1
  have hWH := hP.wh
  unfold f_X11_seats
  refine zi_beq (c_checkWhat (n := 1) (by decide)) ?_
  cases hc0 : okN (1 + 1) a1 with
  | false => exact zwi rfl
  | true =>
    dsimp only
    refine zi_bind (zwp_mono (c_place hP (hN.wl63 hP) hN.tk.1 hS.1 (fun s hs => (hS.2 s hs).2)) ?_)
    rintro ⟨o2, o3, o4, o5, o6, o7, o8⟩ ⟨h1, h2, h3⟩
    dsimp only at h1 h2 h3
    subst h1 h2
    exact zi_c (fun q => zwi (by rw [if_pos q]; rfl)) (fun q => zwi (by rw [if_neg q]; rfl))
theorem c_seat {P : Pl} (hP : plOk P) {hr pn wl ns : Nat} {ncell nsore nheld nlead rows sc msa : Nat → Int32} (hN : NowR P hr pn wl ncell nsore nheld nlead rows) (hS : SeatR P ns sc msa) {best farTo so fr qu : Nat → Int32} {far pl : Int32} {a1 : Int32} : zwp (f_X11_seat a1 ncell (lN wl) (nI (qF P)) (nI (qH P)) sc (nI ns) (nI (qW P)) best far farTo pl so fr qu) (fun r => r.1 = toN (cond (okN (qF P) a1) (some (sPk (sDs P wl ns ncell sc) (qF P) ns a1.toNatClampNeg (sCh (sDs P wl ns ncell sc) (qF P) ns a1.toNatClampNeg).1)) none)) := by
  have hF := hP.2.2.2.2.1
  have hWH := hP.wh
  unfold f_X11_seat
  refine zi_beq (c_checkFigure (F := qF P) (by omega)) ?_
  cases hc0 : okN (qF P) a1 with
  | false => exact zwi rfl
  | true =>
    obtain ⟨f, hf, rfl⟩ := okN_t hc0
    rw [nI_clamp (show f < 2 ^ 31 by omega)]
    dsimp only
    refine zi_bind (zwp_mono (c_place hP (hN.wl63 hP) hN.tk.1 hS.1 (fun s hs => (hS.2 s hs).2)) ?_)
    rintro ⟨o2, o3, o4, o5, o6, o7, o8⟩ ⟨h1, h2, h3⟩
    dsimp only at h1 h2 h3 ⊢
    rw [zbnd_nI (by omega) (by decide), h3 f hf]
    exact zwi rfl
theorem m_canSit {D : Nat → Nat → Option Nat} {S f t s : Nat} {sf : Nat → Int32} (hS : S ≤ 8) (hf : f < 8) (hs : s < S) (ht : t < 2 ^ S) (hD : ∀ v, D f s = some v → v ≤ 36) (hfar : sf (8 * f + s) = encM (D f s)) : f_X12_canSit (nI f) (nI s) (nI t) sf = some (b2 (sSit D f t s)) := by
  have h2 := two8 hS
  unfold f_X12_canSit
  rw [bit_sh t (by omega) s (by omega), show (8 : Int32) = nI 8 from rfl, pk_mul, nI_add, zbnd_nI (by omega) (by decide), nI_clamp (show 8 * f + s < 2 ^ 31 by omega), hfar]
  unfold sSit
  cases ht : t.testBit s with
  | true => rfl
  | false =>
    cases hd : D f s with
    | none => rfl
    | some v =>
      have hv := hD v hd
      rw [if_pos (show b2 false = 0 from rfl)]
      show (if (9999 : Int32) ≤ nI v then some (0 : Int32) else some 1) = some 1
      rw [if_neg (by rw [show (9999 : Int32) = nI 9999 from rfl]; exact nI_ge (by omega) (by decide))]
theorem m_sits {D : Nat → Nat → Option Nat} {L : Nat → Nat} {S f t s : Nat} {sf le : Nat → Int32} (hS : S ≤ 8) (hf : f < 8) (hs : s < S) (ht : t < 2 ^ S) (hq : sSit D f t s = true) (hfar : sf (8 * f + s) = encM (D f s)) (hb : ∀ u, u < 2 ^ S → le (256 * (f + 1) + u) = nI (L u)) : f_X12_sits (nI f) (nI s) (nI t) le sf = some (nI (sVal D L f t s)) := by
  have h2 := two8 hS
  have hor : t ||| 2 ^ s < 2 ^ S := Nat.or_lt_two_pow ht (Nat.pow_lt_pow_right (by decide) hs)
  unfold f_X12_sits
  rw [show (8 : Int32) = nI 8 from rfl, pk_mul, nI_add, zbnd_nI (by omega) (by decide), nI_clamp (show 8 * f + s < 2 ^ 31 by omega), bit_or (by omega), hfar, nI_1, show (256 : Int32) = nI 256 from rfl, pk_mul, nI_add, zbnd_nI (by omega) (by decide), nI_clamp (show 256 * (f + 1) + (t ||| 2 ^ s) < 2 ^ 31 by omega), hb _ hor]
  have hs' : (D f s).isSome = true := by
    unfold sSit at hq
    rw [Bool.and_eq_true] at hq
    exact hq.2
  obtain ⟨v, hv2⟩ := Option.isSome_iff_exists.mp hs'
  unfold sVal
  rw [hv2]
  show some (nI v + nI _) = some (nI (v + _))
  rw [nI_add]
theorem m_laysSeats {P : Pl} (hP : plOk P) {hr pn wl ns : Nat} {ncell nsore nheld nlead rows sc msa fr le qu sf : Nat → Int32} (hN : NowR P hr pn wl ncell nsore nheld nlead rows) (hS : SeatR P ns sc msa) : zwp (f_X12_laysSeats fr (nI (qF P)) le qu rows msa sf (nI ns) (nI (qH P)) (nI (qW P))) (fun r => (∀ f, f ≤ qF P → ∀ u, u < 2 ^ ns → r.2.1 (256 * f + u) = nI (lst (sDs P wl ns ncell sc) (qF P) ns (qF P - f) u)) ∧ ∀ f, f < qF P → ∀ s, s < ns → r.2.2.2 (8 * f + s) = encM (sDs P wl ns ncell sc f s)) := by
  have hF := hP.2.2.2.2.1
  have hWH := hP.wh
  obtain ⟨hns, hsc⟩ := hS
  have hcl : clOk P ncell := hN.tk.1
  have hns2 := two8 hns
  have hD' := sDs_le hP (wl := wl) (cell := ncell) (fun s hs => (hsc s hs).2)
  unfold f_X12_laysSeats
  refine zl_bind (P := fun k a => ∃ f1 q1 ft, a = (nI k, f1, q1, ft) ∧ ∀ f, f < qF P → ∀ s, s < k → ft (8 * f + s) = encM (sDs P wl ns ncell sc f s)) (Post := fun b => ∀ f, f < qF P → ∀ s, s < ns → b.2.2 (8 * f + s) = encM (sDs P wl ns ncell sc f s)) ns (by omega) ⟨_, _, _, rfl, fun f _ s hs => by omega⟩ ?_ ?_ ?_
  · rintro k hk _ ⟨f1, q1, ft, rfl, h⟩
    refine zi_f (nI_ge hk (by omega)) ?_
    obtain ⟨he, c, hc1, hc2⟩ := hsc k hk
    rw [zbnd_nI (by omega) (by decide), nI_clamp (show k < 2 ^ 31 by omega), ← he, hc1]
    refine zi_bind (zwp_mono (m_laysFar hP.1 hP.2.1 hP.2.2.2.1 hWH hN.1.2.2.2.2.2 hc2) ?_)
    rintro ⟨o11, o12⟩ hm
    dsimp only at hm ⊢
    refine zl_bind (P := fun i a => ∃ ft, a = (nI i, ft) ∧ (∀ f, f < qF P → ∀ s, s < k → ft (8 * f + s) = encM (sDs P wl ns ncell sc f s)) ∧ ∀ f, f < i → ft (8 * f + k) = encM (sDs P wl ns ncell sc f k)) (Post := fun b => (∀ f, f < qF P → ∀ s, s < k → b (8 * f + s) = encM (sDs P wl ns ncell sc f s)) ∧ ∀ f, f < qF P → b (8 * f + k) = encM (sDs P wl ns ncell sc f k)) (qF P) (by omega) ⟨_, rfl, h, fun f hf => by omega⟩ ?_ ?_ ?_
    · rintro i hi _ ⟨ft, rfl, h1, h2⟩
      refine zi_f (nI_ge hi (by omega)) ?_
      dsimp only
      obtain ⟨e, he1, he2⟩ := hcl i hi
      rw [ix1, zbnd_nI (by omega) (by decide), nI_clamp (show 0 + 1 + i < 2 ^ 31 by omega), hN.1.2.1 i hi, he1, zbnd_nI (by omega) (by decide), nI_clamp (show e < 2 ^ 31 by omega), show (8 : Int32) = nI 8 from rfl, pk_mul, nI_add, zbnd_nI (by omega) (by decide), nI_clamp (show 8 * i + k < 2 ^ 31 by omega), hm e (by omega), nI_1]
      refine zwi ⟨_, rfl, fun f hf s hs => ?_, fun f hf => ?_⟩
      · rw [pk_un (show 8 * f + s ≠ 8 * i + k by omega)]; exact h1 f hf s hs
      · by_cases q : f = i
        · subst q
          rw [pk_us, sDs_in hi hk]
          unfold sDis
          rw [hc1, he1, nI_clamp (show c < 2 ^ 31 by omega), nI_clamp (show e < 2 ^ 31 by omega)]
        · rw [pk_un (show 8 * f + k ≠ 8 * i + k by omega)]; exact h2 f (by omega)
    · rintro _ ⟨ft, rfl, h1, h2⟩
      exact zi_t (nI_le (Nat.le_refl _) (by omega)) (zwi ⟨h1, h2⟩)
    · intro b ⟨h1, h2⟩
      refine zwi ⟨_, _, _, by rw [nI_1], fun f hf s hs => ?_⟩
      by_cases q : s = k
      · rw [q]; exact h2 f hf
      · exact h1 f hf s (by omega)
  · rintro _ ⟨f1, q1, ft, rfl, h⟩
    exact zi_t (nI_le (Nat.le_refl _) (by omega)) (zwi h)
  · rintro ⟨y1, y2, y3⟩ hfar
    dsimp only at hfar ⊢
    generalize sDs P wl ns ncell sc = D at hfar hD' ⊢
    refine zl_bind (P := fun k a => ∃ b, a = (nI k, b) ∧ ∀ u, u < k → b (256 * qF P + u) = 0) (Post := fun b => ∀ u, u < 256 → b (256 * qF P + u) = 0) 256 (by decide) ⟨_, rfl, fun u hu => by omega⟩ ?_ ?_ ?_
    · rintro k hk _ ⟨b, rfl, h⟩
      refine zi_f (by rw [show (256 : Int32) = nI 256 from rfl]; exact nI_ge hk (by decide)) ?_
      rw [show (256 : Int32) = nI 256 from rfl, pk_mul, nI_add, zbnd_nI (by omega) (by decide), nI_clamp (show 256 * qF P + k < 2 ^ 31 by omega), nI_1]
      refine zwi ⟨_, rfl, fun u hu => ?_⟩
      by_cases q : u = k
      · rw [q, pk_us]
      · rw [pk_un (show 256 * qF P + u ≠ 256 * qF P + k by omega)]; exact h u (by omega)
    · rintro _ ⟨b, rfl, h⟩
      exact zi_t (show (256 : Int32) ≤ nI 256 by decide) (zwi h)
    intro o4 h4
    refine zl_bind (P := fun k a => ∃ b, a = (nI (qF P - k) - 1, b) ∧ ∀ f, qF P - k ≤ f → f ≤ qF P → ∀ u, u < 2 ^ ns → b (256 * f + u) = nI (lst D (qF P) ns (qF P - f) u)) (Post := fun b => ∀ f, f ≤ qF P → ∀ u, u < 2 ^ ns → b (256 * f + u) = nI (lst D (qF P) ns (qF P - f) u)) (qF P) (by omega) ⟨o4, rfl, fun f h1 h2 u hu => ?_⟩ ?_ ?_ ?_
    · rw [show f = qF P by omega, h4 _ (by omega), Nat.sub_self]; rfl
    · rintro k hk _ ⟨b, rfl, hb⟩
      obtain ⟨f, hf⟩ : ∃ f, f = qF P - k - 1 := ⟨_, rfl⟩
      rw [nI_m1 _ (show 0 < qF P - k by omega), ← hf]
      refine zi_f (nI_pos (by omega)) ?_
      refine zl_bind (P := fun t a => ∃ b, a = (nI t, b) ∧ (∀ g, f + 1 ≤ g → g ≤ qF P → ∀ u, u < 2 ^ ns → b (256 * g + u) = nI (lst D (qF P) ns (qF P - g) u)) ∧ ∀ u, u < t → b (256 * f + u) = nI (lst D (qF P) ns (qF P - f) u)) (Post := fun b => (∀ g, f + 1 ≤ g → g ≤ qF P → ∀ u, u < 2 ^ ns → b (256 * g + u) = nI (lst D (qF P) ns (qF P - g) u)) ∧ ∀ u, u < 2 ^ ns → b (256 * f + u) = nI (lst D (qF P) ns (qF P - f) u)) (2 ^ ns) (by omega) ⟨b, rfl, fun g h1 h2 u hu => hb g (by omega) h2 u hu, fun u hu => by omega⟩ ?_ ?_ ?_
      · rintro t ht _ ⟨b, rfl, h1, h2⟩
        have hb1 := h1 (f + 1) (by omega) (by omega)
        have hll := fun u => lst_le (D := D) (F := qF P) (S := ns) (qF P - (f + 1)) u
        have hls := lst_s (D := D) (F := qF P) (S := ns) (f := f) (by omega) t
        generalize hL : lst D (qF P) ns (qF P - (f + 1)) = L at hb1 hll hls
        refine zi_f (by rw [one_shl ns (by omega)]; exact nI_ge ht (by omega)) ?_
        dsimp only
        rw [nI_1, show (256 : Int32) = nI 256 from rfl, pk_mul, nI_add, zbnd_nI (by omega) (by decide), nI_clamp (show 256 * (f + 1) + t < 2 ^ 31 by omega), hb1 t ht]
        have hl1 := hll t
        refine zl_bind (P := fun s a => a = (nI (mnS D L f t s), nI s)) (Post := fun v => v = nI (mnS D L f t ns)) ns (by omega) ?_ ?_ ?_ ?_
        · show (nI 1000 + nI (L t), (0 : Int32)) = (nI (1000 + L t), nI 0)
          rw [nI_add]; rfl
        · rintro s hs _ rfl
          refine zi_f (nI_ge hs (by omega)) ?_
          refine zi_beq (m_canSit hns (by omega) hs ht (hD' f s) (hfar f (by omega) s hs)) ?_
          have m1 := mnS_le (D := D) (L := L) (f := f) (t := t) s
          have l2 := hll (t ||| 2 ^ s)
          cases hq : sSit D f t s with
          | false =>
            refine zi_t rfl (zwi ?_)
            show (_, _) = (_, _)
            rw [mnS_f hq, nI_1]
          | true =>
            refine zi_f (by decide) ?_
            refine zi_beq (m_sits hns (by omega) hs ht hq (hfar f (by omega) s hs) hb1) ?_
            have l3 : sVal D L f t s ≤ 36 + 8000 := by
              unfold sVal
              cases hd : D f s with
              | none => show 0 + L _ ≤ _; omega
              | some v => have := hD' f s v hd; show v + L _ ≤ _; omega
            unfold f_X12_lesser
            by_cases q : sVal D L f t s ≤ mnS D L f t s
            · refine zi_bind (zi_t (nI_le q (by omega)) (zwi (zwi ?_)))
              show (_, _) = (_, _)
              rw [mnS_t hq, nI_1, Nat.min_eq_right q]
            · refine zi_bind (zi_f (nI_ge (by omega) (by omega)) (zwi (zwi ?_)))
              show (_, _) = (_, _)
              rw [mnS_t hq, nI_1, Nat.min_eq_left (by omega)]
        · rintro _ rfl
          exact zi_t (nI_le (Nat.le_refl _) (by omega)) (zwi rfl)
        intro y35 e
        subst e
        rw [pk_mul, nI_add, zbnd_nI (by omega) (by decide), nI_clamp (show 256 * f + t < 2 ^ 31 by omega), nI_1, ← hls]
        refine zwi ⟨_, rfl, fun g g1 g2 u hu => ?_, fun u hu => ?_⟩
        · rw [pk_un (show 256 * g + u ≠ 256 * f + t by omega)]; exact h1 g g1 g2 u hu
        · by_cases q : u = t
          · rw [q, pk_us]
          · rw [pk_un (show 256 * f + u ≠ 256 * f + t by omega)]; exact h2 u (by omega)
      · rintro _ ⟨b, rfl, h1, h2⟩
        exact zi_t (by rw [one_shl ns (by omega)]; exact nI_le (Nat.le_refl _) (by omega)) (zwi ⟨h1, h2⟩)
      · intro b ⟨h1, h2⟩
        refine zwi ⟨b, by rw [m1_eq, show qF P - (k + 1) = f by omega], fun g g1 g2 u hu => ?_⟩
        by_cases q : g = f
        · rw [q]; exact h2 u hu
        · exact h1 g (by omega) g2 u hu
    · rintro _ ⟨b, rfl, hb⟩
      exact zi_t (by rw [Nat.sub_self]; exact m1_neg) (zwi (fun f h1 u hu => hb f (by omega) h1 u hu))
    · intro b hb
      exact zwi ⟨hb, hfar⟩
theorem m_seats {P : Pl} (hP : plOk P) {hr pn wl ns : Nat} {ncell nsore nheld nlead rows sc msa : Nat → Int32} (hN : NowR P hr pn wl ncell nsore nheld nlead rows) (hS : SeatR P ns sc msa) {fr le qu sf : Nat → Int32} {mthr : Int32} {a1 : Int32} : zwp (f_X12_seats a1 fr (nI (qF P)) le qu rows msa sf (nI ns) (nI (qH P)) mthr (nI (qW P))) (fun r => r.1 = toW (cond (okN (1 + 1) a1) (some (if a1 = 0 then nI (sCh (sDs P wl ns ncell sc) (qF P) ns (qF P)).2.2 else nI (sCh (sDs P wl ns ncell sc) (qF P) ns (qF P)).2.1)) none) ∧ r.2.2.2.2.2 = toU (cond (okN (1 + 1) a1) (some (if a1 = 0 then nI (sCh (sDs P wl ns ncell sc) (qF P) ns (qF P)).2.2 else nI (sCh (sDs P wl ns ncell sc) (qF P) ns (qF P)).2.1)) none)) := by
  have hF := hP.2.2.2.2.1
  have hWH := hP.wh
  unfold f_X12_seats
  refine zi_beq (m_isWhat (n := 1) (by decide)) ?_
  cases hc0 : okN (1 + 1) a1 with
  | false => exact zi_t rfl (zwi ⟨rfl, rfl⟩)
  | true =>
    refine zi_f (by decide) ?_
    refine zi_bind (zwp_mono (m_laysSeats hP hN hS) ?_)
    rintro ⟨o3, o4, o5, o6⟩ ⟨h1, h2⟩
    dsimp only at h1 h2 ⊢
    have hl := h1 0 (by omega) 0 (Nat.two_pow_pos ns)
    rw [Nat.sub_zero] at hl
    have hv := sCh_inv (F := qF P) hS.1 (sDs_le hP (wl := wl) (cell := ncell) (fun s hs => (hS.2 s hs).2)) (qF P) (Nat.le_refl _)
    generalize sDs P wl ns ncell sc = D at hl hv ⊢
    obtain ⟨v1, v2, v3, v4⟩ := hv
    rw [Nat.sub_self] at v1
    have hle := lst_le (D := D) (F := qF P) (S := ns) (qF P) 0
    have v5 : lst D (qF P) ns 0 (sCh D (qF P) ns (qF P)).1 = 0 := rfl
    rw [v5] at v1
    generalize lst D (qF P) ns (qF P) 0 = l at hl v1 hle
    generalize sCh D (qF P) ns (qF P) = C at v1 v2 v3 v4 ⊢
    rw [show 256 * 0 + 0 = 0 from rfl] at hl
    rw [hl, show (1000 : Int32) = nI 1000 from rfl]
    refine zi_c (fun q => ?_) (fun q => ?_)
    · rw [if_pos q, pk_div (by omega) (by decide) (by decide), pk_sub (by omega)]
      refine zwi ⟨?_, rfl⟩
      show nI _ = nI _
      congr 1
      omega
    · rw [if_neg q, pk_rem (by omega) (by decide) (by decide)]
      refine zwi ⟨?_, rfl⟩
      show nI _ = nI _
      congr 1
      omega
theorem m_seat {P : Pl} (hP : plOk P) {hr pn wl ns : Nat} {ncell nsore nheld nlead rows sc msa : Nat → Int32} (hN : NowR P hr pn wl ncell nsore nheld nlead rows) (hS : SeatR P ns sc msa) {fr le qu sf : Nat → Int32} {mthr : Int32} {a1 : Int32} : zwp (f_X12_seat a1 fr (nI (qF P)) le qu rows msa sf (nI ns) (nI (qH P)) mthr (nI (qW P))) (fun r => r.1 = toW (cond (okN (qF P) a1) (some (sPk (sDs P wl ns ncell sc) (qF P) ns a1.toNatClampNeg (sCh (sDs P wl ns ncell sc) (qF P) ns a1.toNatClampNeg).1)) none) ∧ r.2.2.2.2.2 = toU (cond (okN (qF P) a1) (some (sPk (sDs P wl ns ncell sc) (qF P) ns a1.toNatClampNeg (sCh (sDs P wl ns ncell sc) (qF P) ns a1.toNatClampNeg).1)) none)) := by
  have hF := hP.2.2.2.2.1
  have hWH := hP.wh
  unfold f_X12_seat
  refine zi_beq (m_isFigure (F := qF P) (by omega)) ?_
  cases hc0 : okN (qF P) a1 with
  | false => exact zi_t rfl (zwi ⟨rfl, rfl⟩)
  | true =>
    refine zi_f (by decide) ?_
    obtain ⟨f0, hf0, rfl⟩ := okN_t hc0
    rw [nI_clamp (show f0 < 2 ^ 31 by omega)]
    refine zi_bind (zwp_mono (m_laysSeats hP hN hS) ?_)
    rintro ⟨o3, o4, o5, o6⟩ ⟨h1, h2⟩
    dsimp only at h1 h2 ⊢
    have hns := hS.1
    have hns2 := two8 hns
    have hD' := sDs_le hP (wl := wl) (cell := ncell) (fun s hs => (hS.2 s hs).2)
    generalize sDs P wl ns ncell sc = D at h1 h2 hD' ⊢
    refine zl_bind (P := fun k a => a = (nI (sCh D (qF P) ns k).1, (if k = 0 then -1 else sPk D (qF P) ns (k - 1) (sCh D (qF P) ns (k - 1)).1), nI k)) (Post := fun b => b = sPk D (qF P) ns f0 (sCh D (qF P) ns f0).1) (f0 + 1) (by omega) rfl ?_ ?_ ?_
    · rintro f hf _ rfl
      refine zi_f (nI_nlt (by omega) (by omega)) ?_
      have ht := (sCh_inv (F := qF P) hns hD' f (by omega)).2.2.2
      have hSn := fun e => sCh_n (D := D) (F := qF P) (S := ns) (f := f) e
      have hSy := fun j hj e => sCh_y (D := D) (F := qF P) (S := ns) (f := f) (j := j) hj e
      have hb1 := h1 (f + 1) (by omega)
      have hb0 := h1 f (by omega)
      have hll := fun u => lst_le (D := D) (F := qF P) (S := ns) (qF P - (f + 1)) u
      have hl0 := fun u => lst_le (D := D) (F := qF P) (S := ns) (qF P - f) u
      rw [if_neg (show ¬ f + 1 = 0 by omega), show f + 1 - 1 = f by omega]
      generalize sCh D (qF P) ns (f + 1) = Z at hSn hSy ⊢
      generalize sCh D (qF P) ns f = T at ht hSn hSy ⊢
      obtain ⟨t, fa, pc⟩ := T
      dsimp only at ht hSn hSy ⊢
      refine zl_bind (P := fun k a => a = (fstI (pkB D (qF P) ns f t) (ns - k) k, nI (ns - k) - 1)) (Post := fun b => b = sPk D (qF P) ns f t) ns (by omega) rfl ?_ ?_ ?_
      · rintro k hk _ rfl
        obtain ⟨s, hs⟩ : ∃ s, s = ns - k - 1 := ⟨_, rfl⟩
        rw [nI_m1 _ (show 0 < ns - k by omega), ← hs]
        refine zi_f (nI_pos (by omega)) ?_
        refine zi_beq (m_canSit hns (by omega) (by omega) ht (hD' f s) (h2 f (by omega) s (by omega))) ?_
        have hnk : ns - k = s + 1 := by omega
        have hnk1 : ns - (k + 1) = s := by omega
        rw [hnk]
        cases hq : sSit D f t s with
        | false =>
          refine zi_t rfl (zwi ?_)
          show (_, _) = (_, _)
          rw [m1_eq, hnk1, fstI_f (lo := s) (by unfold pkB; rw [hq, Bool.false_and]; decide)]
        | true =>
          refine zi_f (by decide) ?_
          refine zi_beq (m_sits hns (by omega) (by omega) ht hq (h2 f (by omega) s (by omega)) hb1) ?_
          have l2 := hll (t ||| 2 ^ s)
          have l4 := hl0 t
          have l3 : sVal D (lst D (qF P) ns (qF P - (f + 1))) f t s ≤ 36 + 8000 := by
            unfold sVal
            cases hd : D f s with
            | none => show 0 + _ ≤ _; omega
            | some v => have := hD' f s v hd; show v + _ ≤ _; omega
          rw [show (256 : Int32) = nI 256 from rfl, pk_mul, nI_add, zbnd_nI (by omega) (by decide), nI_clamp (show 256 * f + t < 2 ^ 31 by omega), hb0 t ht]
          by_cases q : sVal D (lst D (qF P) ns (qF P - (f + 1))) f t s = lst D (qF P) ns (qF P - f) t
          · refine zi_t (by rw [q]) (zwi ?_)
            show (_, _) = (_, _)
            rw [m1_eq, hnk1, fstI_t (lo := s) (by unfold pkB; rw [hq, q, beq_self_eq_true]; rfl)]
          · refine zi_f (nI_ne (by omega) (by omega) q) (zwi ?_)
            show (_, _) = (_, _)
            rw [m1_eq, hnk1, fstI_f (lo := s) (by unfold pkB; rw [hq, beq_false_of_ne q]; decide)]
      · rintro _ rfl
        exact zi_t (by rw [Nat.sub_self]; exact m1_neg) (zwi (by rw [Nat.sub_self]; rfl))
      · intro b e
        subst e
        rcases fstI_cs (p := pkB D (qF P) ns f t) ns 0 with ⟨e, _⟩ | ⟨j, _, hj, hp, e⟩
        · have e' : sPk D (qF P) ns f t = -1 := e
          rw [hSn e']
          exact zi_t e' (zwi (by rw [nI_1]; rfl))
        · have e' : sPk D (qF P) ns f t = nI j := e
          rw [hSy j (by omega) e']
          refine zi_f (by rw [e']; exact nI_nm1 (by omega)) (zwi ?_)
          show (_, _, _) = (_, _, _)
          rw [e', bit_or (by omega), nI_1]
    · rintro _ rfl
      exact zi_t (nI_lt (by omega) (by omega)) (zwi (by rw [if_neg (show ¬ f0 + 1 = 0 by omega)]; rfl))
    · intro b e
      exact zwi ⟨e, rfl⟩
