/-! WALL, HOURS, UNDO -/
def anyB (p : Nat → Bool) : Nat → Bool
  | 0 => false
  | n + 1 => anyB p n || p n
theorem bts_0 {p : Nat → Bool} : ∀ {n : Nat}, bts p n = 0 ↔ anyB p n = false
  | 0 => by simp [bts, anyB]
  | n + 1 => by
    have h0 : 0 < (2 : Nat) ^ n := Nat.two_pow_pos n
    have ih := bts_0 (p := p) (n := n)
    unfold bts anyB
    rw [Bool.or_eq_false_iff, ← ih]
    cases p n with
    | true => simp
    | false => simp
theorem nI_bts0 {p : Nat → Bool} {n : Nat} (hn : n ≤ 8) : nI (bts p n) = 0 ↔ anyB p n = false := by
  rw [show (0 : Int32) = nI 0 from rfl, nI_eq (Nat.lt_trans (bts_256 hn) (by decide)) (by decide), bts_0]
/-- the seats, in the class and in the reference -/
def SeatR (P : Pl) (ns : Nat) (sc msa : Nat → Int32) : Prop := ns ≤ 8 ∧ ∀ s, s < ns → sc s = msa s ∧ ∃ c, sc s = nI c ∧ c < qW P * qH P
theorem c_seatsAt {ns : Nat} {sc : Nat → Int32} {c : Int32} (hF : ns ≤ 8) : f_X3_seatsAt c sc (nI ns) = some (nI (bts (fun f => sc f == c) ns)) := by
  unfold f_X3_seatsAt
  refine (zl_run (s := fun k => (nI (bts (fun f => sc f == c) k), nI k)) (b := nI (bts (fun f => sc f == c) ns)) ns (by omega) rfl ?_ ?_).trans rfl
  · intro k hk
    show (if nI ns ≤ nI k then _ else _) = _
    rw [if_neg (nI_ge hk (by omega)), zbnd_nI (by omega) (by decide), nI_clamp (by omega)]
    by_cases h : sc k = c
    · rw [if_pos h, bts_step (by omega) (by simp [h]), nI_1]
    · rw [if_neg h, nI_1, ← bts_stay (p := fun f => sc f == c) (k := k) (by simp [h])]
  · show (if nI ns ≤ nI ns then _ else _) = _
    rw [if_pos (nI_le (Nat.le_refl _) (by omega))]
theorem one_shlL : ∀ k, k < 64 → ((1 : Int64) <<< ((nI k).toInt64 &&& 63)) = lN (2 ^ k) := by decide +kernel
theorem NowR.wall {P : Pl} (hP : plOk P) {hr pn wl c : Nat} {w : Bool} {ncell nsore nheld nlead rows : Nat → Int32} (h : NowR P hr pn wl ncell nsore nheld nlead rows) (hc : c < qW P * qH P) (hw : ¬ wl.testBit c = w) : NowR P hr pn (wl ^^^ 2 ^ c) ncell nsore nheld nlead (upd rows (0 + 33 + c) (b2 w)) := by
  have hF := hP.2.2.2.2.1
  have hWH := hP.wh
  obtain ⟨⟨r0, r1, r2, r3, r4, r5⟩, a2, a3, a4, a5, a6⟩ := h
  refine ⟨⟨by rw [pk_un (by omega)]; exact r0, fun f hf => by rw [pk_un (by omega)]; exact r1 f hf, fun f hf => by rw [pk_un (by omega)]; exact r2 f hf, fun f hf => by rw [pk_un (by omega)]; exact r3 f hf, fun f hf => by rw [pk_un (by omega)]; exact r4 f hf, fun d hd => ?_⟩, by rw [pk_un (by omega)]; exact a2, a3, a4, Nat.xor_lt_two_pow a5 (Nat.pow_lt_pow_right (by decide) hc), a6⟩
  rw [fb_bit_flip]
  by_cases he : d = c
  · subst he
    rw [pk_us]
    cases hb : wl.testBit d <;> cases w <;> simp_all
  · rw [pk_un (by omega), r5 d hd]
    simp [he]
theorem cm_wall {P : Pl} (hP : plOk P) {hr pn wl nx na : Nat} {ncell nsore nheld nlead rows drows mkept refd mrefd : Nat → Int32} {mwl mways mlight mcode mtold mpile vals gst hst : Nat → Int32} {mga mha mthr : Int32} (hm : mPl P mwl mways mlight mcode mga mha) {ns : Nat} {sc msa : Nat → Int32} (hS : SeatR P ns sc msa) (hA : ActR P hr pn wl nx na ncell nsore nheld nlead rows drows mkept refd mrefd) {a1 : Int32} {w : Bool} : zwp (f_X11_wall a1 (b2 w) (nI na) (nI nx) drows ncell (nI (qF P)) nheld (nI hr) (nI pn) nsore (lN wl) (nI (qH P)) sc (nI ns) (nI (qW P)) refd) (fun r => r.1 = toN (cond (okN (qW P * qH P) a1) (some (b2 (!(wl.testBit a1.toNatClampNeg == w) && !anyB (fun f => ncell f == a1) (qF P) && !anyB (fun s => sc s == a1) ns))) none) ∧ zwp (f_X12_wall a1 (b2 w) (nI na) (nI (qF P)) mkept mrefd rows msa (nI ns) (nI (qH P)) mthr (nI (qW P))) (fun s => s.1 = toW (cond (okN (qW P * qH P) a1) (some (b2 (!(wl.testBit a1.toNatClampNeg == w) && !anyB (fun f => ncell f == a1) (qF P) && !anyB (fun s => sc s == a1) ns))) none) ∧ s.2.2.2.2.2 = toU (cond (okN (qW P * qH P) a1) (some (b2 (!(wl.testBit a1.toNatClampNeg == w) && !anyB (fun f => ncell f == a1) (qF P) && !anyB (fun s => sc s == a1) ns))) none) ∧ ∃ nx2 na2 wl2, r.2.1 = nI na2 ∧ s.2.1 = nI na2 ∧ r.2.2.1 = nI nx2 ∧ r.2.2.2.2.1 = lN wl2 ∧ ActR P hr pn wl2 nx2 na2 ncell nsore nheld nlead s.2.2.2.2.1 r.2.2.2.1 s.2.2.1 r.2.2.2.2.2 s.2.2.2.1)) := by
  have hF := hP.2.2.2.2.1
  have hWH := hP.wh
  obtain ⟨hN, hD, hRf⟩ := hA
  unfold f_X11_wall f_X12_wall
  refine zi_beq (c_checkCell (W := qW P) (H := qH P) (by omega)) ?_
  cases hc0 : okN (qW P * qH P) a1 with
  | false =>
    refine zwi ⟨rfl, ?_⟩
    refine zi_beq (m_isCell (W := qW P) (H := qH P) (by omega)) ?_
    rw [hc0]
    exact zi_t rfl (zwi ⟨rfl, rfl, ⟨nx, na, wl, rfl, rfl, rfl, rfl, hN, hD, hRf⟩⟩)
  | true =>
    obtain ⟨c, hc, rfl⟩ := okN_t hc0
    have hns := hS.1
    have hwr : rows (0 + 33 + c) = b2 (wl.testBit c) := hN.1.2.2.2.2.2 c (by omega)
    have mseat : zitr (α := Int32 × Int32) (β := Int32) (fun (q : Int32 × Int32) => match q with | (x5, x6) => (if (nI ns) ≤ x6 then some (.inr x5) else Option.bind (α := Int32) ((if x5 = (0 : Int32) then zbnd x6 8 ((if ((msa) x6.toNatClampNeg) = nI c then some (1 : Int32) else some (0 : Int32))) else some (1 : Int32))) (fun (j17 : Int32) => some (.inl (j17, (x6 + (1 : Int32))))))) zFU ((b2 (anyB (fun f => ncell f == nI c) (qF P))), (0 : Int32)) = some (b2 (anyB (fun f => ncell f == nI c) (qF P) || anyB (fun s => sc s == nI c) ns)) := by
      refine zitr_run (s := fun k => (b2 (anyB (fun f => ncell f == nI c) (qF P) || anyB (fun s => sc s == nI c) k), nI k)) ns (by omega) ?_ ?_ ?_
      · show (b2 (_ || false), _) = _
        rw [Bool.or_false]; rfl
      · intro k hk
        show (if nI ns ≤ nI k then _ else _) = _
        rw [if_neg (nI_ge hk (by omega)), zbnd_nI (by omega) (by decide), nI_clamp (by omega), ← (hS.2 k hk).1, nI_1, b2_ite]
        show _ = some (Sum.inl (b2 (_ || (anyB _ k || _)), nI (k + 1)))
        rw [← Bool.or_assoc]
        cases hq : (anyB (fun f => ncell f == nI c) (qF P) || anyB (fun s => sc s == nI c) k) with
        | true => rfl
        | false =>
          rw [if_pos (by decide)]
          rfl
      · show (if nI ns ≤ nI ns then _ else _) = _
        rw [if_pos (nI_le (Nat.le_refl _) (by omega))]
    rw [nI_clamp (show c < 2 ^ 31 by omega)]
    refine zi_beq (c_isWall (hN.wl63 hP) (by omega)) ?_
    by_cases hw : wl.testBit c = w
    · have hv : (!(wl.testBit c == w) && !anyB (fun f => ncell f == nI c) (qF P) && !anyB (fun s => sc s == nI c) ns) = false := by simp [hw]
      rw [hv]
      refine zi_t (by rw [hw]) ?_
      refine zi_beq (a := (-1, upd refd 1 (refd 1 + 1))) rfl (zwi ⟨rfl, ?_⟩)
      refine zi_beq (m_isCell (W := qW P) (H := qH P) (by omega)) ?_
      rw [hc0]
      refine zi_f (by decide) ?_
      refine zi_beq (m_atCell (b := 0) (cell := ncell) hF (by omega) hN.1.2.1) ?_
      refine zi_beq (a := b2 (anyB (fun f => ncell f == nI c) (qF P))) (by rw [b2_iten]; congr 2; rw [Bool.eq_iff_iff]; simp only [Bool.not_eq_true', decide_eq_false_iff_not, nI_bts0 hF, Bool.not_eq_false]) ?_
      refine zi_beq (a := b2 (anyB (fun f => ncell f == nI c) (qF P) || anyB (fun s => sc s == nI c) ns)) mseat ?_
      rw [ix33, zbnd_nI (by omega) (by decide), nI_clamp (show 0 + 33 + c < 2 ^ 31 by omega), hwr]
      refine zi_beq (a := b2 (wl.testBit c)) (by cases wl.testBit c <;> rfl) ?_
      exact zi_t (by rw [hw]) (zi_beq m_refuses1 (zi_t (by decide) (zwi ⟨rfl, rfl, ⟨nx, na, wl, rfl, rfl, rfl, rfl, hN, hD, ref_upd hRf (by decide)⟩⟩)))
    · have hw2 : ¬ b2 (wl.testBit c) = b2 w := by
        intro e; apply hw; cases hx : wl.testBit c <;> cases w <;> rw [hx] at e <;> first | rfl | (exact absurd e (by decide))
      refine zi_f hw2 ?_
      refine zi_beq (c_figuresAt hF) ?_
      cases hf : anyB (fun f => ncell f == nI c) (qF P) with
      | true =>
        refine zi_f (fun e => by rw [nI_bts0 hF] at e; rw [e] at hf; cases hf) ?_
        refine zi_beq (a := (-1, upd refd 1 (refd 1 + 1))) rfl (zwi ⟨by simp [b2, toN], ?_⟩)
        have hf' := hf
        refine zi_beq (m_isCell (W := qW P) (H := qH P) (by omega)) ?_
        rw [hc0]
        refine zi_f (by decide) ?_
        refine zi_beq (m_atCell (b := 0) (cell := ncell) hF (by omega) hN.1.2.1) ?_
        refine zi_beq (a := b2 (anyB (fun f => ncell f == nI c) (qF P))) (by rw [b2_iten]; congr 2; rw [Bool.eq_iff_iff]; simp only [Bool.not_eq_true', decide_eq_false_iff_not, nI_bts0 hF, Bool.not_eq_false]) ?_
        refine zi_beq (a := b2 (anyB (fun f => ncell f == nI c) (qF P) || anyB (fun s => sc s == nI c) ns)) mseat ?_
        rw [ix33, zbnd_nI (by omega) (by decide), nI_clamp (show 0 + 33 + c < 2 ^ 31 by omega), hwr]
        refine zi_beq (a := b2 (wl.testBit c)) (by cases wl.testBit c <;> rfl) ?_
        exact zi_f hw2 (zi_f (by rw [hf', Bool.true_or]; decide) (zi_beq m_refuses1 (zi_t (by decide) (zwi ⟨by simp [b2, toW], rfl, ⟨nx, na, wl, rfl, rfl, rfl, rfl, hN, hD, ref_upd hRf (by decide)⟩⟩))))
      | false =>
        refine zi_t ((nI_bts0 hF).mpr hf) ?_
        refine zi_beq (c_seatsAt hns) ?_
        cases hs : anyB (fun s => sc s == nI c) ns with
        | true =>
          refine zi_f (fun e => by rw [nI_bts0 hns] at e; rw [e] at hs; cases hs) ?_
          refine zi_beq (a := (-1, upd refd 1 (refd 1 + 1))) rfl (zwi ⟨by simp [b2, toN], ?_⟩)
          have hs' := hs
          have hf' := hf
          refine zi_beq (m_isCell (W := qW P) (H := qH P) (by omega)) ?_
          rw [hc0]
          refine zi_f (by decide) ?_
          refine zi_beq (m_atCell (b := 0) (cell := ncell) hF (by omega) hN.1.2.1) ?_
          refine zi_beq (a := b2 (anyB (fun f => ncell f == nI c) (qF P))) (by rw [b2_iten]; congr 2; rw [Bool.eq_iff_iff]; simp only [Bool.not_eq_true', decide_eq_false_iff_not, nI_bts0 hF, Bool.not_eq_false]) ?_
          refine zi_beq (a := b2 (anyB (fun f => ncell f == nI c) (qF P) || anyB (fun s => sc s == nI c) ns)) mseat ?_
          rw [ix33, zbnd_nI (by omega) (by decide), nI_clamp (show 0 + 33 + c < 2 ^ 31 by omega), hwr]
          refine zi_beq (a := b2 (wl.testBit c)) (by cases wl.testBit c <;> rfl) ?_
          exact zi_f hw2 (zi_f (by rw [hf', hs']; decide) (zi_beq m_refuses1 (zi_t (by decide) (zwi ⟨by simp [b2, toW], rfl, ⟨nx, na, wl, rfl, rfl, rfl, rfl, hN, hD, ref_upd hRf (by decide)⟩⟩))))
        | false =>
          refine zi_t ((nI_bts0 hns).mpr hs) ?_
          refine zi_bind (zwp_mono (c_keep (nx := nx) (na := na) (hr := hr) (pn := pn) (wl := wl) hD.1 hD.2.1) ?_)
          rintro ⟨u1, u2, u3⟩ ⟨k1, k2, k3, k4, k5, k6, k7⟩
          dsimp only at k1 k2 k3 k4 k5 k6 k7 ⊢
          subst k1 k2
          have hv : (!(wl.testBit c == w) && !false && !false) = true := by simp [hw]
          rw [hv]
          refine zwi ⟨rfl, ?_⟩
          have hs' := hs
          have hf' := hf
          refine zi_beq (m_isCell (W := qW P) (H := qH P) (by omega)) ?_
          rw [hc0]
          refine zi_f (by decide) ?_
          refine zi_beq (m_atCell (b := 0) (cell := ncell) hF (by omega) hN.1.2.1) ?_
          refine zi_beq (a := b2 (anyB (fun f => ncell f == nI c) (qF P))) (by rw [b2_iten]; congr 2; rw [Bool.eq_iff_iff]; simp only [Bool.not_eq_true', decide_eq_false_iff_not, nI_bts0 hF, Bool.not_eq_false]) ?_
          refine zi_beq (a := b2 (anyB (fun f => ncell f == nI c) (qF P) || anyB (fun s => sc s == nI c) ns)) mseat ?_
          rw [ix33, zbnd_nI (by omega) (by decide), nI_clamp (show 0 + 33 + c < 2 ^ 31 by omega), hwr]
          refine zi_beq (a := b2 (wl.testBit c)) (by cases wl.testBit c <;> rfl) ?_
          refine zi_f hw2 (zi_t (by rw [hf', hs']; rfl) ?_)
          refine zi_bind (zwp_mono (m_keeps hD.2.1) ?_)
          rintro ⟨v1, v2⟩ ⟨l1, l2, l3⟩
          dsimp only at l1 l2 l3 ⊢
          subst l1
          have hD2 := dia_keep hP hD hN k3 k4 k5 k6 k7 l2 l3
          refine zi_beq (a := b2 w) (by cases w <;> rfl) ?_
          rw [zbnd_nI (by omega) (by decide)]
          refine zwi ⟨rfl, rfl, (nx + 1) % 40, naN na, wl ^^^ 2 ^ c, rfl, rfl, rfl, ?_, hN.wall hP hc hw, hD2, hRf⟩
          rw [one_shlL c (by omega), fb_xorL]
