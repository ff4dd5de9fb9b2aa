/-! WAYS: the first step, the way -/
theorem sFar_ok {W H wl a j d : Nat} (hW : 0 < W) (hWH : W * H ≤ 36) (ha : a < W * H) (h : sFar W H wl a j = some d) : j < W * H ∧ d ≤ 36 := by
  have hI := bI_run (wl := wl) hW hWH ha 36
  have := hI.1 j d h
  exact ⟨this.1, Nat.le_trans this.2 (bI_le hI)⟩
def fsK (W H wl : Nat) (far : Nat → Option Nat) (c d : Nat) : Nat → Int32
  | 0 => -1
  | k + 1 => match sBeside W H c (nI (k + 1)) with
    | none => fsK W H wl far c d k
    | some x => if wl.testBit x then fsK W H wl far c d k else if far x = some d then (if fsK W H wl far c d k = -1 then nI x else if fsK W H wl far c d k ≤ nI x then fsK W H wl far c d k else nI x) else fsK W H wl far c d k
def sFirst (W H wl : Nat) (far : Nat → Option Nat) (c : Nat) : Int32 := match far c with
  | some (d + 1) => fsK W H wl far c d 4
  | _ => -1
theorem enc_eq {o : Option Nat} {d : Nat} (ho : ∀ e, o = some e → e ≤ 36) (hd : d ≤ 36) : enc o = nI d ↔ o = some d := by
  cases o with
  | none => exact ⟨fun h => (by have := (enc_none (o := some d) (fun c q => by injection q with q; omega)).mp h.symm; cases this), fun h => by cases h⟩
  | some e =>
    have := ho e rfl
    exact ⟨fun h => by
      by_cases q : e = d
      · rw [q]
      · exact absurd h (nI_ne (by omega) (by omega) q), fun h => by injection h with h; rw [h]; rfl⟩
theorem encM_eq {o : Option Nat} {d : Nat} (ho : ∀ e, o = some e → e ≤ 36) (hd : d ≤ 36) : encM o = nI d ↔ o = some d := by
  cases o with
  | none => exact ⟨fun h => absurd h (nI_ne (a := 9999) (by omega) (by omega) (by omega)), fun h => by cases h⟩
  | some e =>
    have := ho e rfl
    exact ⟨fun h => by
      by_cases q : e = d
      · rw [q]
      · exact absurd h (nI_ne (by omega) (by omega) q), fun h => by injection h with h; rw [h]; rfl⟩
theorem c_firstStep {W H wl c : Nat} {far : Nat → Option Nat} {fr : Nat → Int32} (hW : 2 ≤ W) (hW6 : W ≤ 6) (hH : H ≤ 6) (hWH : W * H ≤ 36) (hwl : wl < 2 ^ 63) (hc : c < W * H) (hb : ∀ j e, far j = some e → e ≤ 36) (hf : ∀ j, j < 36 → fr j = enc (far j)) : zwp (f_X10_firstStep (nI c) fr (nI H) (nI W) (lN wl)) (fun r => r = sFirst W H wl far c) := by
  unfold f_X10_firstStep sFirst
  have fc := hf c (by omega)
  have out : enc (far c) ≤ 0 → zwp (Option.bind (zitr (fun (q : Int32 × Int32) => match q with | (x1, x2) => (if (4 : Int32) < x2 then some (.inr x1) else zbnd (nI c) 36 ((if (((fr)) (nI c).toNatClampNeg) ≤ (0 : Int32) then some (.inr x1) else Option.bind (f_X3_beside (nI c) x2 ((nI H)) ((nI W))) (fun r7 => (if r7 = (-1 : Int32) then some (.inl (x1, (x2 + (1 : Int32)))) else Option.bind (f_X8_isWall r7 ((lN wl))) (fun r8 => (if r8 = (0 : Int32) then zbnd r7 36 (zbnd (nI c) 36 ((if (((fr)) r7.toNatClampNeg) = ((((fr)) (nI c).toNatClampNeg) - (1 : Int32)) then (if x1 = (-1 : Int32) then some (.inl (r7, (x2 + (1 : Int32)))) else (if x1 ≤ r7 then some (.inl (x1, (x2 + (1 : Int32)))) else some (.inl (r7, (x2 + (1 : Int32)))))) else some (.inl (x1, (x2 + (1 : Int32))))))) else some (.inl (x1, (x2 + (1 : Int32)))))))))))) zFU ((-1 : Int32), (1 : Int32))) (fun (y4 : Int32) => some y4)) (fun r => r = -1) := by
    intro h
    refine zl_bind (P := fun k a => a = (-1, nI (k + 1))) (Post := fun b => b = -1) 4 (by decide) rfl ?_ ?_ ?_
    · rintro k hk _ rfl
      refine zi_f (by rw [show (4 : Int32) = nI 4 from rfl]; exact nI_nlt (by omega) (by omega)) ?_
      rw [zbnd_nI (by omega) (by decide), nI_clamp (show c < 2 ^ 31 by omega)]
      exact zi_t (by rw [fc]; exact h) (zwi rfl)
    · rintro _ rfl
      exact zi_t (by decide) (zwi rfl)
    · rintro _ rfl; exact zwi rfl
  cases hfc : far c with
  | none => rw [hfc] at out; exact out (by decide)
  | some n =>
    cases n with
    | zero => rw [hfc] at out; exact out (by decide)
    | succ d =>
      have hd := hb c _ hfc
      rw [hfc] at fc
      show zwp _ (fun r => r = fsK W H wl far c d 4)
      refine zl_bind (P := fun k a => a = (fsK W H wl far c d k, nI (k + 1))) (Post := fun b => b = fsK W H wl far c d 4) 4 (by decide) rfl ?_ ?_ ?_
      · rintro k hk _ rfl
        refine zi_f (by rw [show (4 : Int32) = nI 4 from rfl]; exact nI_nlt (by omega) (by omega)) ?_
        rw [zbnd_nI (by omega) (by decide), nI_clamp (show c < 2 ^ 31 by omega)]
        refine zi_f (by rw [fc]; exact nI_ge (a := 0) (by omega) (by omega)) ?_
        refine zi_beq (c_beside hW hW6 hH hc (by omega)) ?_
        have hK1 : fsK W H wl far c d (k + 1) = (match sBeside W H c (nI (k + 1)) with | none => fsK W H wl far c d k | some x => if wl.testBit x then fsK W H wl far c d k else if far x = some d then (if fsK W H wl far c d k = -1 then nI x else if fsK W H wl far c d k ≤ nI x then fsK W H wl far c d k else nI x) else fsK W H wl far c d k) := rfl
        revert hK1
        cases hs : sBeside W H c (nI (k + 1)) with
        | none =>
          intro hK1
          dsimp only at hK1
          exact zi_t rfl (zwi (by rw [hK1, nI_1]; rfl))
        | some x =>
          intro hK1
          dsimp only at hK1
          have hx := sBeside_lt (by omega) hc hs
          refine zi_f (fun e => by have := (enc_none (o := some x) (fun c q => by injection q with q; omega)).mp e; cases this) ?_
          rw [show enc (some x) = nI x from rfl]
          refine zi_beq (c_isWall hwl (by omega)) ?_
          cases hw : wl.testBit x with
          | true => exact zi_f (by decide) (zwi (by rw [hK1, hw, nI_1]; rfl))
          | false =>
            refine zi_t rfl ?_
            rw [hw, if_neg (show ¬ (false = true) by decide)] at hK1
            rw [zbnd_nI (by omega) (by decide), zbnd_nI (by omega) (by decide), nI_clamp (show x < 2 ^ 31 by omega), fc, show enc (some (d + 1)) - 1 = nI d from nI_m1 (d + 1) (by omega), hf x (by omega)]
            refine zi_c (fun q => ?_) (fun q => ?_)
            · rw [if_pos ((enc_eq (hb x) (by omega)).mp q)] at hK1
              exact zi_c (fun q1 => zwi (by rw [hK1, if_pos q1, nI_1]; rfl)) (fun q1 => zi_c (fun q2 => zwi (by rw [hK1, if_neg q1, if_pos q2, nI_1]; rfl)) (fun q2 => zwi (by rw [hK1, if_neg q1, if_neg q2, nI_1]; rfl)))
            · rw [if_neg (fun e => q ((enc_eq (hb x) (by omega)).mpr e))] at hK1
              exact zwi (by rw [hK1, nI_1]; rfl)
      · rintro _ rfl
        exact zi_t (show (4 : Int32) < nI (4 + 1) by decide) (zwi rfl)
      · rintro _ rfl; exact zwi rfl
theorem c_way {P : Pl} (hP : plOk P) {hr pn wl : Nat} {ncell nsore nheld nlead rows : Nat → Int32} (hN : NowR P hr pn wl ncell nsore nheld nlead rows) {fr qu : Nat → Int32} {a1 a2 a3 : Int32} : zwp (f_X11_way a1 a2 a3 (lN wl) (nI (qH P)) (nI (qW P)) fr qu) (fun r => r.1 = toN (cond (okN (qW P * qH P) a1) (cond (okN (qW P * qH P) a2) (cond (okN (1 + 1) a3) (some (if a3 = 0 then enc ((sFar (qW P) (qH P) wl a2.toNatClampNeg) a1.toNatClampNeg) else sFirst (qW P) (qH P) wl (sFar (qW P) (qH P) wl a2.toNatClampNeg) a1.toNatClampNeg)) none) none) none)) := by
  have hF := hP.2.2.2.2.1
  have hWH := hP.wh
  unfold f_X11_way
  refine zi_beq (c_checkCell (W := qW P) (H := qH P) (by omega)) ?_
  cases hc0 : okN (qW P * qH P) a1 with
  | false => exact zwi rfl
  | true =>
    refine zi_beq (c_checkCell (W := qW P) (H := qH P) (by omega)) ?_
    cases hc1 : okN (qW P * qH P) a2 with
    | false => exact zwi rfl
    | true =>
      refine zi_beq (c_checkWhat (n := 1) (by decide)) ?_
      cases hc2 : okN (1 + 1) a3 with
      | false => exact zwi rfl
      | true =>
        obtain ⟨c, hc, rfl⟩ := okN_t hc0
        obtain ⟨a, ha, rfl⟩ := okN_t hc1
        rw [nI_clamp (show c < 2 ^ 31 by omega), nI_clamp (show a < 2 ^ 31 by omega)]
        refine zi_bind (zwp_mono (c_measure hP.1 hP.2.1 hP.2.2.2.1 hWH (hN.wl63 hP) ha) ?_)
        rintro ⟨f', q'⟩ h
        dsimp only at h ⊢
        have hok : ∀ j e, sFar (qW P) (qH P) wl a j = some e → e ≤ 36 := fun j e h => (sFar_ok (by have := hP.1; omega) hWH ha h).2
        refine zi_c (fun q => ?_) (fun q => ?_)
        · rw [zbnd_nI (by omega) (by decide)]
          exact zwi (by rw [if_pos q, h c (by omega)]; rfl)
        · refine zi_bind (zwp_mono (c_firstStep hP.1 hP.2.1 hP.2.2.2.1 hWH (hN.wl63 hP) hc hok h) ?_)
          intro r6 e
          exact zwi (by rw [if_neg q, e]; rfl)
theorem m_way {P : Pl} (hP : plOk P) {hr pn wl : Nat} {ncell nsore nheld nlead rows : Nat → Int32} (hN : NowR P hr pn wl ncell nsore nheld nlead rows) {mthr : Int32} {fr qu : Nat → Int32} {a1 a2 a3 : Int32} : zwp (f_X12_way a1 a2 a3 fr qu rows (nI (qH P)) mthr (nI (qW P))) (fun r => r.1 = toW (cond (okN (qW P * qH P) a1) (cond (okN (qW P * qH P) a2) (cond (okN (1 + 1) a3) (some (if a3 = 0 then enc ((sFar (qW P) (qH P) wl a2.toNatClampNeg) a1.toNatClampNeg) else sFirst (qW P) (qH P) wl (sFar (qW P) (qH P) wl a2.toNatClampNeg) a1.toNatClampNeg)) none) none) none) ∧ r.2.2.2 = toU (cond (okN (qW P * qH P) a1) (cond (okN (qW P * qH P) a2) (cond (okN (1 + 1) a3) (some (if a3 = 0 then enc ((sFar (qW P) (qH P) wl a2.toNatClampNeg) a1.toNatClampNeg) else sFirst (qW P) (qH P) wl (sFar (qW P) (qH P) wl a2.toNatClampNeg) a1.toNatClampNeg)) none) none) none)) := by
  have hF := hP.2.2.2.2.1
  have hWH := hP.wh
  obtain ⟨r0, r1, r2, r3, r4, r5⟩ := hN.1
  unfold f_X12_way
  refine zi_beq (m_isCell (W := qW P) (H := qH P) (by omega)) ?_
  cases hc0 : okN (qW P * qH P) a1 with
  | false => exact zi_t rfl (zwi ⟨rfl, rfl⟩)
  | true =>
    refine zi_f (by decide) ?_
    refine zi_beq (m_isCell (W := qW P) (H := qH P) (by omega)) ?_
    cases hc1 : okN (qW P * qH P) a2 with
    | false => exact zi_t rfl (zwi ⟨rfl, rfl⟩)
    | true =>
      refine zi_f (by decide) ?_
      refine zi_beq (m_isWhat (n := 1) (by decide)) ?_
      cases hc2 : okN (1 + 1) a3 with
      | false => exact zi_t rfl (zwi ⟨rfl, rfl⟩)
      | true =>
        refine zi_f (by decide) ?_
        obtain ⟨c, hc, rfl⟩ := okN_t hc0
        obtain ⟨a, ha, rfl⟩ := okN_t hc1
        rw [nI_clamp (show c < 2 ^ 31 by omega), nI_clamp (show a < 2 ^ 31 by omega)]
        refine zi_bind (zwp_mono (m_laysFar hP.1 hP.2.1 hP.2.2.2.1 hWH r5 ha) ?_)
        rintro ⟨f', q'⟩ h
        dsimp only at h ⊢
        have hok : ∀ j e, sFar (qW P) (qH P) wl a j = some e → e ≤ 36 := fun j e h => (sFar_ok (by have := hP.1; omega) hWH ha h).2
        have fc := h c (by omega)
        refine zi_c (fun q => ?_) (fun q => ?_)
        · rw [zbnd_nI (by omega) (by decide), if_pos q]
          cases hfc : sFar (qW P) (qH P) wl a c with
          | none =>
            rw [hfc] at fc
            exact zi_f (by rw [fc]; decide) (zwi ⟨rfl, rfl⟩)
          | some d =>
            rw [hfc] at fc
            have hd := hok c d hfc
            refine zi_t (by rw [fc]; exact nI_lt (b := 9999) (by omega) (by omega)) ?_
            rw [zbnd_nI (by omega) (by decide), fc]
            exact zwi ⟨rfl, rfl⟩
        rw [if_neg q]
        unfold sFirst
        generalize hfar : sFar (qW P) (qH P) wl a = far at *
        cases hfc : far c with
        | none =>
          rw [hfc] at fc
          refine zl_bind (P := fun k a => a = (-1, nI (k + 1))) (Post := fun b => b = -1) 4 (by decide) rfl ?_ ?_ ?_
          · rintro k hk _ rfl
            refine zi_f (by rw [show (5 : Int32) = nI 5 from rfl]; exact nI_ge (by omega) (by omega)) ?_
            rw [zbnd_nI (by omega) (by decide), zbnd_nI (by omega) (by decide)]
            refine zi_f (by rw [fc]; decide) (zi_t (by rw [fc]; decide) (zwi rfl))
          · rintro _ rfl
            exact zi_t (by decide) (zwi rfl)
          · rintro _ rfl; exact zwi ⟨rfl, rfl⟩
        | some n =>
          rw [hfc] at fc
          cases n with
          | zero =>
            refine zl_bind (P := fun k a => a = (-1, nI (k + 1))) (Post := fun b => b = -1) 4 (by decide) rfl ?_ ?_ ?_
            · rintro k hk _ rfl
              refine zi_f (by rw [show (5 : Int32) = nI 5 from rfl]; exact nI_ge (by omega) (by omega)) ?_
              rw [zbnd_nI (by omega) (by decide)]
              exact zi_t (by rw [fc]; decide) (zwi rfl)
            · rintro _ rfl
              exact zi_t (by decide) (zwi rfl)
            · rintro _ rfl; exact zwi ⟨rfl, rfl⟩
          | succ d =>
            have hd := hok c _ hfc
            refine zl_bind (P := fun k a => a = (fsK (qW P) (qH P) wl far c d k, nI (k + 1))) (Post := fun b => b = fsK (qW P) (qH P) wl far c d 4) 4 (by decide) rfl ?_ ?_ ?_
            · rintro k hk _ rfl
              refine zi_f (by rw [show (5 : Int32) = nI 5 from rfl]; exact nI_ge (by omega) (by omega)) ?_
              dsimp only
              rw [zbnd_nI (by omega) (by decide), zbnd_nI (by omega) (by decide)]
              refine zi_f (by rw [fc]; exact nI_ge (a := 0) (by omega) (by omega)) ?_
              refine zi_f (by rw [fc]; exact nI_ge (b := 9999) (by omega) (by omega)) ?_
              refine zi_beq (m_beside hP.1 hP.2.1 hP.2.2.2.1 hc (by omega)) ?_
              have hK1 : fsK (qW P) (qH P) wl far c d (k + 1) = (match sBeside (qW P) (qH P) c (nI (k + 1)) with | none => fsK (qW P) (qH P) wl far c d k | some x => if wl.testBit x then fsK (qW P) (qH P) wl far c d k else if far x = some d then (if fsK (qW P) (qH P) wl far c d k = -1 then nI x else if fsK (qW P) (qH P) wl far c d k ≤ nI x then fsK (qW P) (qH P) wl far c d k else nI x) else fsK (qW P) (qH P) wl far c d k) := rfl
              revert hK1
              cases hs : sBeside (qW P) (qH P) c (nI (k + 1)) with
              | none =>
                intro hK1
                dsimp only at hK1
                exact zi_t rfl (zwi (by rw [hK1, nI_1]; rfl))
              | some x =>
                intro hK1
                dsimp only at hK1
                have hx := sBeside_lt (by have := hP.1; omega) hc hs
                refine zi_f (fun e => by have := (enc_none (o := some x) (fun c q => by injection q with q; omega)).mp e; cases this) ?_
                rw [show enc (some x) = nI x from rfl, show (33 : Int32) + nI x = nI (0 + 33 + x) by rw [show (33 : Int32) = nI 33 from rfl, nI_add, Nat.zero_add], zbnd_nI (by omega) (by decide), nI_clamp (show 0 + 33 + x < 2 ^ 31 by omega), r5 x (by omega)]
                cases hw : wl.testBit x with
                | true => exact zi_t rfl (zwi (by rw [hK1, hw, nI_1]; rfl))
                | false =>
                  refine zi_f (by decide) ?_
                  rw [hw, if_neg (show ¬ (false = true) by decide)] at hK1
                  rw [zbnd_nI (by omega) (by decide), zbnd_nI (by omega) (by decide), nI_clamp (show x < 2 ^ 31 by omega), fc, show encM (some (d + 1)) - 1 = nI d from nI_m1 (d + 1) (by omega), h x (by omega)]
                  refine zi_c (fun q => ?_) (fun q => ?_)
                  · rw [if_pos ((encM_eq (hok x) (by omega)).mp q)] at hK1
                    refine zi_bind (zwp_mono (Q := fun v => v = (if fsK (qW P) (qH P) wl far c d k = -1 then nI x else if fsK (qW P) (qH P) wl far c d k ≤ nI x then fsK (qW P) (qH P) wl far c d k else nI x)) ?_ ?_)
                    · refine zi_c (fun q1 => zwi (by rw [if_pos q1])) (fun q1 => ?_)
                      unfold f_X12_lesser
                      rw [if_neg q1]
                      refine zi_bind (zi_c (fun q2 => zwi (zwi ?_)) (fun q2 => zwi (zwi ?_)))
                      · split
                        · next q3 => exact Int32.le_antisymm q2 q3
                        · rfl
                      · rw [if_pos (Int32.le_of_lt (Int32.not_le.mp q2))]
                    · intro v e
                      exact zwi (by rw [hK1, e, nI_1]; rfl)
                  · rw [if_neg (fun e => q ((encM_eq (hok x) (by omega)).mpr e))] at hK1
                    exact zwi (by rw [hK1, nI_1]; rfl)
            · rintro _ rfl
              exact zi_t (show (5 : Int32) ≤ nI (4 + 1) by decide) (zwi rfl)
            · rintro _ rfl; exact zwi ⟨rfl, rfl⟩
