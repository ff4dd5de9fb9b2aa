/-! CELL: what is seen from a cell -/
def rMu (W H k x : Nat) : Nat := if k = 1 then x / W + 1 else if k = 2 then W - x % W else if k = 3 then H - x / W else x % W + 1
def oMu (W H k : Nat) : Option Nat → Nat
  | none => 0
  | some x => rMu W H k x
def rChk (W H x k : Nat) : Bool := W == 0 || !decide (x < W * H) || (decide (oMu W H (k + 1) (sBeside W H x (nI (k + 1))) + 1 ≤ rMu W H (k + 1) x) && (decide (rMu W H (k + 1) x ≤ 7) && decide (0 < rMu W H (k + 1) x)))
theorem rChk_all : ∀ W, W < 7 → ∀ H, H < 7 → ∀ x, x < 36 → ∀ k, k < 4 → rChk W H x k = true := by decide +kernel
theorem rMu_all (W : Nat) (hW : W < 7) (H : Nat) (hH : H < 7) (x : Nat) (hx : x < 36) (k : Nat) (hk : k < 4) (h0 : 0 < W) (hc : x < W * H) : oMu W H (k + 1) (sBeside W H x (nI (k + 1))) + 1 ≤ rMu W H (k + 1) x ∧ rMu W H (k + 1) x ≤ 7 ∧ 0 < rMu W H (k + 1) x := by
  have h := rChk_all W hW H hH x hx k hk
  unfold rChk at h
  rw [show (W == 0) = false from beq_false_of_ne (by omega), decide_eq_true hc] at h
  simp only [Bool.not_true, Bool.false_or, Bool.and_eq_true, decide_eq_true_eq] at h
  exact h
/-- along a line -/
def ryN (W H wl k : Nat) (v : Nat → Int32) : Nat → Option Nat → Int32 → Int32
  | 0, _, acc => acc
  | _ + 1, none, acc => acc
  | n + 1, some x, acc => if wl.testBit x then acc else ryN W H wl k v n (sBeside W H x (nI k)) (acc ||| v x)
def sSeen (W H wl c : Nat) (v : Nat → Int32) : Nat → Int32
  | 0 => v c
  | k + 1 => ryN W H wl (k + 1) v 36 (sBeside W H c (nI (k + 1))) (sSeen W H wl c v k)
def vAt (F : Nat) (cell : Nat → Int32) (x : Nat) : Int32 := nI (bts (fun f => cell f == nI x) F)
theorem c_seenFrom {W H wl c F : Nat} {cell : Nat → Int32} (hW : 2 ≤ W) (hW6 : W ≤ 6) (hH : H ≤ 6) (hWH : W * H ≤ 36) (hF : F ≤ 8) (hwl : wl < 2 ^ 63) (hc : c < W * H) : zwp (f_X10_seenFrom (nI c) (nI H) (nI W) cell (nI F) (lN wl)) (fun r => r = sSeen W H wl c (vAt F cell) 4) := by
  unfold f_X10_seenFrom
  refine zi_beq (c_figuresAt hF) ?_
  refine zl_bind (P := fun k a => a = (sSeen W H wl c (vAt F cell) k, nI (k + 1))) (Post := fun b => b = sSeen W H wl c (vAt F cell) 4) 4 (by decide) rfl ?_ ?_ ?_
  · rintro k hk _ rfl
    refine zi_f (by rw [show (4 : Int32) = nI 4 from rfl]; exact nI_nlt (by omega) (by omega)) ?_
    refine zi_beq (c_beside hW hW6 hH hc (by omega)) ?_
    refine zl_bind (P := fun i a => ∃ acc nx, a = (acc, enc nx, nI i) ∧ (∀ x, nx = some x → x < W * H) ∧ ryN W H wl (k + 1) (vAt F cell) (36 - i) nx acc = sSeen W H wl c (vAt F cell) (k + 1)) (Post := fun b => b = sSeen W H wl c (vAt F cell) (k + 1)) 36 (by decide) ⟨_, _, rfl, fun x hx => sBeside_lt (by omega) hc hx, rfl⟩ ?_ ?_ ?_
    · rintro i hi _ ⟨acc, nx, rfl, hx, he⟩
      refine zi_f (by rw [show (36 : Int32) = nI 36 from rfl]; exact nI_ge hi (by decide)) ?_
      rw [show 36 - i = (36 - (i + 1)) + 1 by omega] at he
      cases nx with
      | none => exact zi_t rfl (zwi he)
      | some x =>
        have hx' := hx x rfl
        refine zi_f (fun e => by have := (enc_none (o := some x) (fun c q => by injection q with q; omega)).mp e; cases this) ?_
        rw [show enc (some x) = nI x from rfl]
        refine zi_beq (c_isWall hwl (by omega)) ?_
        unfold ryN at he
        cases hw : wl.testBit x with
        | true =>
          rw [hw, if_pos rfl] at he
          exact zi_f (by decide) (zwi he)
        | false =>
          rw [hw, if_neg (by decide)] at he
          refine zi_t rfl ?_
          refine zi_beq (c_figuresAt hF) ?_
          refine zi_beq (c_beside hW hW6 hH hx' (by omega)) ?_
          exact zwi ⟨_, _, by rw [nI_1]; rfl, fun y hy => sBeside_lt (by omega) hx' hy, he⟩
    · rintro _ ⟨acc, nx, rfl, hx, he⟩
      exact zi_t (show (36 : Int32) ≤ nI 36 by decide) (zwi he)
    · rintro _ rfl
      exact zwi (by rw [nI_1]; rfl)
  · rintro _ rfl
    exact zi_t (show (4 : Int32) < nI (4 + 1) by decide) (zwi rfl)
  · intro b e; exact zwi e
theorem m_seenFrom {W H wl c F : Nat} {cell rows : Nat → Int32} (hW : 2 ≤ W) (hW6 : W ≤ 6) (hH : H ≤ 6) (hWH : W * H ≤ 36) (hF : F ≤ 8) (hR : ∀ c, c < 36 → rows (0 + 33 + c) = b2 (wl.testBit c)) (hC : ∀ f, f < F → rows (0 + 1 + f) = cell f) (hc : c < W * H) : zwp (f_X12_seenFrom (nI c) (nI F) rows (nI H) (nI W)) (fun r => r = sSeen W H wl c (vAt F cell) 4) := by
  unfold f_X12_seenFrom
  refine zi_beq (m_atCell (b := 0) hF (by omega) hC) ?_
  refine zl_bind (P := fun k a => a = (sSeen W H wl c (vAt F cell) k, nI (k + 1))) (Post := fun b => b = sSeen W H wl c (vAt F cell) 4) 4 (by decide) rfl ?_ ?_ ?_
  · rintro k hk _ rfl
    refine zi_f (by rw [show (5 : Int32) = nI 5 from rfl]; exact nI_ge (by omega) (by omega)) ?_
    refine zi_beq (m_beside hW hW6 hH hc (by omega)) ?_
    have hmu := rMu_all W (by omega) H (by omega)
    refine zl_bind (P := fun i a => ∃ acc nx, a = (acc, enc nx) ∧ (∀ x, nx = some x → x < W * H) ∧ oMu W H (k + 1) nx + i ≤ 7 ∧ ryN W H wl (k + 1) (vAt F cell) (36 - i) nx acc = sSeen W H wl c (vAt F cell) (k + 1)) (Post := fun b => b = sSeen W H wl c (vAt F cell) (k + 1)) 8 (by decide) ⟨_, _, rfl, fun x hx => sBeside_lt (by omega) hc hx, by have := hmu c (by omega) k hk (by omega) hc; omega, rfl⟩ ?_ ?_ ?_
    · rintro i hi _ ⟨acc, nx, rfl, hx, hm, he⟩
      rw [show 36 - i = (36 - (i + 1)) + 1 by omega] at he
      cases nx with
      | none => exact zi_t rfl (zwi he)
      | some x =>
        have hx' := hx x rfl
        refine zi_f (fun e => by have := (enc_none (o := some x) (fun c q => by injection q with q; omega)).mp e; cases this) ?_
        rw [show enc (some x) = nI x from rfl, show (33 : Int32) + nI x = nI (0 + 33 + x) by rw [show (33 : Int32) = nI 33 from rfl, nI_add, Nat.zero_add], zbnd_nI (by omega) (by decide), nI_clamp (show 0 + 33 + x < 2 ^ 31 by omega), hR x (by omega)]
        unfold ryN at he
        cases hw : wl.testBit x with
        | true =>
          rw [hw, if_pos rfl] at he
          exact zi_f (by decide) (zwi he)
        | false =>
          rw [hw, if_neg (by decide)] at he
          refine zi_t rfl ?_
          refine zi_beq (m_atCell (b := 0) hF (by omega) hC) ?_
          refine zi_beq (m_beside hW hW6 hH hx' (by omega)) ?_
          have h2 := hmu x (by omega) k hk (by omega) hx'
          have hm' : rMu W H (k + 1) x + i ≤ 7 := hm
          exact zwi ⟨_, _, rfl, fun y hy => sBeside_lt (by omega) hx' hy, by omega, he⟩
    · rintro _ ⟨acc, nx, rfl, hx, hm, he⟩
      omega
    · rintro _ rfl
      exact zwi (by rw [nI_1]; rfl)
  · rintro _ rfl
    exact zi_t (show (5 : Int32) ≤ nI (4 + 1) by decide) (zwi rfl)
  · intro b e; exact zwi e
theorem c_cell {P : Pl} (hP : plOk P) {hr pn wl ns : Nat} {ncell nsore nheld nlead rows sc msa : Nat → Int32} (hN : NowR P hr pn wl ncell nsore nheld nlead rows) (hS : SeatR P ns sc msa) {a1 a2 : Int32} : zwp (f_X11_cell a1 a2 ncell (nI (qF P)) (lN wl) (nI (qH P)) sc (nI ns) (nI (qW P))) (fun r => r = toN (cond (okN (qW P * qH P) a1) (cond (okN (3 + 1) a2) (some (if a2 = 0 then b2 (wl.testBit a1.toNatClampNeg) else if a2 = 1 then nI (bts (fun f => ncell f == a1) (qF P)) else if a2 = 2 then nI (bts (fun f => sc f == a1) ns) else sSeen (qW P) (qH P) wl a1.toNatClampNeg (vAt (qF P) ncell) 4)) none) none)) := by
  have hF := hP.2.2.2.2.1
  have hWH := hP.wh
  unfold f_X11_cell
  refine zi_beq (c_checkCell (W := qW P) (H := qH P) (by omega)) ?_
  cases hc0 : okN (qW P * qH P) a1 with
  | false => exact zwi rfl
  | true =>
    obtain ⟨c, hc, rfl⟩ := okN_t hc0
    rw [nI_clamp (show c < 2 ^ 31 by omega)]
    cases hc1 : okN (3 + 1) a2 with
    | false =>
      have hno : ¬ ((0 : Int) ≤ a2.toInt ∧ a2.toInt < (3 + 1 : Nat)) := of_decide_eq_false hc1
      have ne : ∀ k : Nat, k < 4 → ¬ a2 = nI k := fun k hk e => hno (by rw [e, nI_toInt (by omega)]; omega)
      exact zi_f (ne 0 (by decide)) (zi_f (ne 1 (by decide)) (zi_f (ne 2 (by decide)) (zi_f (ne 3 (by decide)) (zwi rfl))))
    | true =>
      obtain ⟨k, hk, rfl⟩ := okN_t hc1
      have hcase : k = 0 ∨ k = 1 ∨ k = 2 ∨ k = 3 := by omega
      rcases hcase with rfl | rfl | rfl | rfl
      · refine zi_t rfl ?_
        refine zi_beq (c_isWall (hN.wl63 hP) (by omega)) ?_
        cases hw : wl.testBit c with
        | true => exact zi_f (by decide) (zwi rfl)
        | false => exact zi_t rfl (zwi rfl)
      · refine zi_f (by decide) (zi_t rfl ?_)
        exact zi_beq (c_figuresAt hF) (zwi rfl)
      · refine zi_f (by decide) (zi_f (by decide) (zi_t rfl ?_))
        exact zi_beq (c_seatsAt hS.1) (zwi rfl)
      · refine zi_f (by decide) (zi_f (by decide) (zi_f (by decide) (zi_t rfl ?_)))
        refine zi_bind (zwp_mono (c_seenFrom hP.1 hP.2.1 hP.2.2.2.1 hWH hF (hN.wl63 hP) hc) ?_)
        intro r e
        exact zwi (by rw [e]; rfl)
theorem m_cell {P : Pl} (hP : plOk P) {hr pn wl ns : Nat} {ncell nsore nheld nlead rows sc msa : Nat → Int32} (hN : NowR P hr pn wl ncell nsore nheld nlead rows) (hS : SeatR P ns sc msa) {mthr : Int32} {a1 a2 : Int32} : zwp (f_X12_cell a1 a2 (nI (qF P)) rows msa (nI ns) (nI (qH P)) mthr (nI (qW P))) (fun r => r.1 = toW (cond (okN (qW P * qH P) a1) (cond (okN (3 + 1) a2) (some (if a2 = 0 then b2 (wl.testBit a1.toNatClampNeg) else if a2 = 1 then nI (bts (fun f => ncell f == a1) (qF P)) else if a2 = 2 then nI (bts (fun f => sc f == a1) ns) else sSeen (qW P) (qH P) wl a1.toNatClampNeg (vAt (qF P) ncell) 4)) none) none) ∧ r.2 = toU (cond (okN (qW P * qH P) a1) (cond (okN (3 + 1) a2) (some (if a2 = 0 then b2 (wl.testBit a1.toNatClampNeg) else if a2 = 1 then nI (bts (fun f => ncell f == a1) (qF P)) else if a2 = 2 then nI (bts (fun f => sc f == a1) ns) else sSeen (qW P) (qH P) wl a1.toNatClampNeg (vAt (qF P) ncell) 4)) none) none)) := by
  have hF := hP.2.2.2.2.1
  have hWH := hP.wh
  obtain ⟨r0, r1, r2, r3, r4, r5⟩ := hN.1
  unfold f_X12_cell
  refine zi_beq (m_isCell (W := qW P) (H := qH P) (by omega)) ?_
  cases hc0 : okN (qW P * qH P) a1 with
  | false => exact zi_t rfl (zwi ⟨rfl, rfl⟩)
  | true =>
    refine zi_f (by decide) ?_
    refine zi_beq (m_isWhat (n := 3) (by decide)) ?_
    cases hc1 : okN (3 + 1) a2 with
    | false => exact zi_t rfl (zwi ⟨rfl, rfl⟩)
    | true =>
      refine zi_f (by decide) ?_
      obtain ⟨c, hc, rfl⟩ := okN_t hc0
      rw [nI_clamp (show c < 2 ^ 31 by omega)]
      have hns := hS.1
      refine zl_bind (P := fun k a => a = (nI (bts (fun f => sc f == nI c) k), nI k)) (Post := fun b => b = nI (bts (fun f => sc f == nI c) ns)) ns (by omega) rfl ?_ ?_ ?_
      · rintro k hk _ rfl
        refine zi_f (nI_ge hk (by omega)) ?_
        rw [zbnd_nI (by omega) (by decide), nI_clamp (by omega), ← (hS.2 k hk).1]
        by_cases h : sc k = nI c
        · rw [if_pos h]
          refine zi_beq rfl (zwi ?_)
          rw [bts_step (by omega) (by simp [h]), nI_1]; rfl
        · rw [if_neg h]
          refine zi_beq rfl (zwi ?_)
          rw [nI_1, bts_stay (by simp [h]), show (0 : Int32) = nI 0 from rfl, fa_or, Nat.or_zero]; rfl
      · rintro _ rfl
        exact zi_t (nI_le (Nat.le_refl _) (by omega)) (zwi rfl)
      · rintro _ rfl
        obtain ⟨k, hk, rfl⟩ := okN_t hc1
        have hcase : k = 0 ∨ k = 1 ∨ k = 2 ∨ k = 3 := by omega
        rcases hcase with rfl | rfl | rfl | rfl
        · refine zi_t rfl ?_
          rw [show (33 : Int32) + nI c = nI (0 + 33 + c) by rw [show (33 : Int32) = nI 33 from rfl, nI_add, Nat.zero_add], zbnd_nI (by omega) (by decide), nI_clamp (show 0 + 33 + c < 2 ^ 31 by omega), r5 c (by omega)]
          exact zwi ⟨rfl, rfl⟩
        · refine zi_f (by decide) (zi_t rfl ?_)
          exact zi_beq (m_atCell (b := 0) hF (by omega) r1) (zwi ⟨rfl, rfl⟩)
        · refine zi_f (by decide) (zi_f (by decide) (zi_t rfl ?_))
          exact zwi ⟨rfl, rfl⟩
        · refine zi_f (by decide) (zi_f (by decide) (zi_f (by decide) ?_))
          refine zi_bind (zwp_mono (m_seenFrom hP.1 hP.2.1 hP.2.2.2.1 hWH hF r5 r1 hc) ?_)
          intro r e
          exact zwi ⟨by rw [e]; rfl, rfl⟩
