/-! READING LINES: numbers, cells, rows -/
def tn (b : Nat → Int32) (n p : Nat) : Nat → Nat
  | 0 => p
  | j + 1 => nxP b n (tn b n p j)
def RowStop (b : Nat → Int32) (n most p j : Nat) : Prop := j ≤ 8 ∧ (∀ i, i < j → tK b n (tn b n p i) = 2 ∧ nfO b n (tn b n p i) 0 most = 0) ∧ (tK b n (tn b n p j) = 2 → j = 8 ∨ ¬ nfO b n (tn b n p j) 0 most = 0)
theorem RowStop_one {b : Nat → Int32} {n most p j k : Nat} (h1 : RowStop b n most p j) (h2 : RowStop b n most p k) : j = k := by
  obtain ⟨a1, a2, a3⟩ := h1
  obtain ⟨c1, c2, c3⟩ := h2
  by_cases q : j < k
  · obtain ⟨e1, e2⟩ := c2 j q
    rcases a3 e1 with h | h
    · omega
    · exact absurd e2 h
  · by_cases q2 : k < j
    · obtain ⟨e1, e2⟩ := a2 k q2
      rcases c3 e1 with h | h
      · omega
      · exact absurd e2 h
    · omega
def rowF (b : Nat → Int32) (n p j : Nat) : Nat := if tK b n (tn b n p j) = 2 then 2 else if j = 0 then 1 else 0
theorem nx_le {b : Nat → Int32} {n p : Nat} (hp : p ≤ n) : p ≤ nxP b n p ∧ nxP b n p ≤ n := by
  obtain ⟨e1, e2, e3⟩ := tE_le (b := b) hp
  obtain ⟨e5, e6⟩ := tP_le (b := b) (n := n) (e := tE b n p) e2
  exact ⟨by show p ≤ tP b n (tE b n p); omega, e6⟩
theorem tn_le {b : Nat → Int32} {n p : Nat} (hp : p ≤ n) : ∀ j, p ≤ tn b n p j ∧ tn b n p j ≤ n
  | 0 => ⟨Nat.le_refl _, hp⟩
  | j + 1 => by
    obtain ⟨h1, h2⟩ := tn_le (b := b) hp j
    obtain ⟨h3, h4⟩ := nx_le (b := b) (n := n) (p := tn b n p j) h2
    exact ⟨by show p ≤ nxP b n (tn b n p j); omega, h4⟩
theorem nfO_le {b : Nat → Int32} {n p lo hi : Nat} : nfO b n p lo hi ≤ 2 := by
  unfold nfO
  repeat' split
  all_goals omega
theorem nfO_2 {b : Nat → Int32} {n p lo hi : Nat} (h : tK b n p = 2) (h2 : ¬ nfO b n p lo hi = 0) : nfO b n p lo hi = 2 := by
  unfold nfO at h2 ⊢
  rw [if_pos h] at h2 ⊢
  revert h2
  repeat' split
  all_goals omega
theorem nfO_1 {b : Nat → Int32} {n p lo hi : Nat} (h : ¬ tK b n p = 2) : nfO b n p lo hi = 1 := by
  unfold nfO
  rw [if_neg h]
theorem nfO_0 {b : Nat → Int32} {n p lo hi : Nat} (h : nfO b n p lo hi = 0) : tK b n p = 2 ∧ tE b n p - p ≤ 4 ∧ lo ≤ nvN b n p ∧ nvN b n p ≤ hi := by
  unfold nfO at h
  by_cases h1 : tK b n p = 2
  · rw [if_pos h1] at h
    by_cases h2 : tE b n p - p ≤ 4
    · rw [if_pos h2] at h
      by_cases h3 : lo ≤ nvN b n p ∧ nvN b n p ≤ hi
      · exact ⟨h1, h2, h3.1, h3.2⟩
      · rw [if_neg h3] at h; omega
    · rw [if_neg h2] at h; omega
  · rw [if_neg h1] at h; omega
theorem c_readRow {b arr : Nat → Int32} {n p base most nar : Nat} {rs e k nm pl : Int32} (hn : n ≤ 700) (hp : p ≤ n) (hm : most ≤ 9999) (hb : base + 8 ≤ nar) (hna : nar < 2 ^ 31) (ht : CTok b n p e k nm pl) : zwp (f_X4_readRow (nI base) (nI most) nar arr rs b e k (nI n) nm pl) (fun r => ∃ j, RowStop b n most p j ∧ r.1 = nI (rowF b n p j) ∧ (∀ i, i < j → r.2.1 (base + i) = nI (nvN b n (tn b n p i))) ∧ (∀ i, i < base ∨ base + 8 ≤ i → r.2.1 i = arr i) ∧ r.2.2.1 = nI j ∧ CTok b n (tn b n p j) r.2.2.2.1 r.2.2.2.2.1 r.2.2.2.2.2.1 r.2.2.2.2.2.2) := by
  unfold f_X4_readRow
  refine zl_bs (P := fun i a => i ≤ 8 ∧ a.1 = nI i ∧ a.2.2.1 = nI i ∧ (∀ j, j < i → tK b n (tn b n p j) = 2 ∧ nfO b n (tn b n p j) 0 most = 0) ∧ (∀ j, j < i → a.2.1 (base + j) = nI (nvN b n (tn b n p j))) ∧ (∀ j, j < base ∨ base + 8 ≤ j → a.2.1 j = arr j) ∧ CTok b n (tn b n p i) a.2.2.2.1 a.2.2.2.2.1 a.2.2.2.2.2.1 a.2.2.2.2.2.2) (Post := fun a => ∃ i, i ≤ 8 ∧ a.2.1 = nI i ∧ ¬ tK b n (tn b n p i) = 2 ∧ (∀ j, j < i → tK b n (tn b n p j) = 2 ∧ nfO b n (tn b n p j) 0 most = 0) ∧ (∀ j, j < i → a.1 (base + j) = nI (nvN b n (tn b n p j))) ∧ (∀ j, j < base ∨ base + 8 ≤ j → a.1 j = arr j) ∧ CTok b n (tn b n p i) a.2.2.1 a.2.2.2.1 a.2.2.2.2.1 a.2.2.2.2.2) 8 (by decide) ⟨by omega, rfl, rfl, fun j hj => by omega, fun j hj => by omega, fun _ _ => rfl, ht⟩ ?_ ?_ ?_
  · rintro i hi ⟨x1, x2, x3, x4, x5, x6, x7⟩ ⟨q0, q1, q2, q3, q4, q5, t1, t2, t3, t4⟩
    dsimp only at q1 q2 q4 q5 t1 t2 t3 t4
    subst q1 q2 t1 t2 t3
    have hk := tK_le (b := b) (n := n) (p := tn b n p i)
    obtain ⟨pl1, pl2⟩ := tn_le (b := b) hp i
    refine zi_f (by rw [show (8 : Int32) = nI 8 from rfl]; exact nI_nlt (by omega) (by decide)) ?_
    by_cases h2 : tK b n (tn b n p i) = 2
    · refine zi_t (by rw [h2]; rfl) ?_
      refine zi_f (nI_ne (b := 8) (by omega) (by decide) (by omega)) ?_
      refine zi_beq (c_numF (lo := 0) (hi := most) hn pl2 (by decide) (by omega) t4) ?_
      by_cases h0 : nfO b n (tn b n p i) 0 most = 0
      · obtain ⟨f1, f2, f3, f4⟩ := nfO_0 h0
        rw [h0]
        refine zi_t rfl ?_
        dsimp only
        rw [nI_add]
        refine zi_bind (zi_f (by rw [show Int32.ofNat nar = nI nar from rfl]; exact nI_ge (by omega) hna) ?_)
        rw [zbnd_nI (by omega) hna, nI_clamp (show base + i < 2 ^ 31 by omega)]
        refine zwi ?_
        refine zi_bind (zwp_mono (c_adv hn pl2 rfl) ?_)
        rintro ⟨o17, o18, o19, o20⟩ ht2
        refine zwi ⟨by omega, by rw [nI_1], by rw [nI_1], fun j hj => ?_, fun j hj => ?_, fun j hj => ?_, ht2⟩
        · by_cases q : j = i
          · rw [q]; exact ⟨h2, h0⟩
          · exact q3 j (by omega)
        · show upd x2 (base + i) x6 (base + j) = _
          by_cases q : j = i
          · rw [q, pk_us, t4 h2, (nvN_ok pl2 f1 f2).1]
          · rw [pk_un (by omega)]; exact q4 j (by omega)
        · show upd x2 (base + i) x6 j = _
          rw [pk_un (by omega)]; exact q5 j hj
      · refine zi_f (fun e => h0 ((nI_z0 (by have := nfO_le (b := b) (n := n) (p := tn b n p i) (lo := 0) (hi := most); omega)).mp e)) (zwi ?_)
        refine ⟨i, ⟨by omega, q3, fun _ => .inr h0⟩, ?_, q4, q5, rfl, rfl, rfl, rfl, t4⟩
        unfold rowF
        rw [if_pos h2]; rfl
    · refine zi_f (fun e => h2 (by rw [show (2 : Int32) = nI 2 from rfl, nI_eq (by omega) (by decide)] at e; exact e)) (zwi ⟨i, q0, rfl, h2, q3, q4, q5, rfl, rfl, rfl, t4⟩)
  · rintro ⟨x1, x2, x3, x4, x5, x6, x7⟩ ⟨q0, q1, q2, q3, q4, q5, t1, t2, t3, t4⟩
    dsimp only at q1 q2 q4 q5 t1 t2 t3 t4
    subst q1 q2 t1 t2 t3
    have hk := tK_le (b := b) (n := n) (p := tn b n p 8)
    refine zi_f (show ¬ (8 : Int32) < nI 8 by decide) ?_
    by_cases h2 : tK b n (tn b n p 8) = 2
    · refine zi_t (by rw [h2]; rfl) ?_
      refine zi_t (show nI 8 = 8 from rfl) (zwi ?_)
      refine ⟨8, ⟨by omega, q3, fun _ => .inl rfl⟩, ?_, q4, q5, rfl, rfl, rfl, rfl, t4⟩
      unfold rowF
      rw [if_pos h2]; rfl
    · refine zi_f (fun e => h2 (by rw [show (2 : Int32) = nI 2 from rfl, nI_eq (by omega) (by decide)] at e; exact e)) (zwi ⟨8, q0, rfl, h2, q3, q4, q5, rfl, rfl, rfl, t4⟩)
  · rintro ⟨y9, y10, y11, y12, y13, y14⟩ ⟨i, q0, q1, q2, q3, q4, q5, ht2⟩
    dsimp only at q1 q4 q5 ht2 ⊢
    subst q1
    by_cases h0 : i = 0
    · subst h0
      refine zi_t (show nI 0 ≤ 0 by decide) (zwi ⟨0, ⟨by omega, q3, fun h => absurd h q2⟩, ?_, q4, q5, rfl, ht2⟩)
      unfold rowF
      rw [if_neg q2, if_pos rfl]; rfl
    · refine zi_f (nI_nle (by omega) (by omega)) (zwi ⟨i, ⟨by omega, q3, fun h => absurd h q2⟩, ?_, q4, q5, rfl, ht2⟩)
      unfold rowF
      rw [if_neg q2, if_neg h0]; rfl
def cfO (b : Nat → Int32) (n p WH wl : Nat) : Nat := if tK b n p = 2 then (if tE b n p - p ≤ 4 then (if nvN b n p < WH then (if wl.testBit (nvN b n p) then 4 else 0) else 3) else 2) else 1
theorem cfO_0 {b : Nat → Int32} {n p WH wl : Nat} (h : cfO b n p WH wl = 0) : tK b n p = 2 ∧ tE b n p - p ≤ 4 ∧ nvN b n p < WH ∧ wl.testBit (nvN b n p) = false := by
  unfold cfO at h
  by_cases h1 : tK b n p = 2
  · rw [if_pos h1] at h
    by_cases h2 : tE b n p - p ≤ 4
    · rw [if_pos h2] at h
      by_cases h3 : nvN b n p < WH
      · rw [if_pos h3] at h
        cases h4 : wl.testBit (nvN b n p) with
        | true => rw [h4, if_pos rfl] at h; omega
        | false => exact ⟨h1, h2, h3, rfl⟩
      · rw [if_neg h3] at h; omega
    · rw [if_neg h2] at h; omega
  · rw [if_neg h1] at h; omega
theorem cfO_le {b : Nat → Int32} {n p WH wl : Nat} : cfO b n p WH wl ≤ 4 := by
  unfold cfO
  repeat' split
  all_goals omega
theorem c_isWall3 {wl c : Nat} (hw : wl < 2 ^ 63) (hc : c < 64) : f_X3_isWall (nI c) (lN wl) = some (b2 (wl.testBit c)) := c_isWall hw hc
theorem c_cellFault {b : Nat → Int32} {n p W H wl : Nat} {nm : Int32} (hn : n ≤ 700) (hp : p ≤ n) (hw : wl < 2 ^ 63) (hWH : W * H ≤ 36) (hm : tK b n p = 2 → nm = nvI b p (tE b n p - p)) : f_X4_cellFault (nI H) (lN wl) (nI W) (nI (tE b n p)) (nI (tK b n p)) nm (nI p) = some (nI (cfO b n p (W * H) wl)) := by
  unfold f_X4_cellFault
  rw [show f_X9_numberFault 0 9999 (nI (tE b n p)) (nI (tK b n p)) nm (nI p) = some (nI (nfO b n p 0 9999)) from c_numF (lo := 0) (hi := 9999) hn hp (by decide) (by decide) hm, nfO_9 hp]
  unfold cfO
  by_cases h1 : tK b n p = 2
  · rw [if_pos h1, if_pos h1]
    by_cases h2 : tE b n p - p ≤ 4
    · rw [if_pos h2, if_pos h2]
      obtain ⟨v1, v2⟩ := nvN_ok hp h1 h2
      rw [hm h1, v1]
      generalize nvN b n p = v at v2
      show (if nI 0 = 0 then Option.bind (f_X3_cells (nI H) (nI W)) (fun r2 => (if nI v < r2 then Option.bind (f_X3_isWall (nI v) (lN wl)) (fun r3 => (if r3 = 0 then some 0 else some 4)) else some 3)) else some (nI 0)) = _
      rw [if_pos (show nI 0 = 0 from rfl)]
      unfold f_X3_cells
      show (if nI v < nI W * nI H then _ else _) = _
      rw [pk_mul]
      by_cases h3 : v < W * H
      · rw [if_pos (nI_lt h3 (by omega)), if_pos h3, c_isWall3 hw (by omega)]
        cases wl.testBit v <;> rfl
      · rw [if_neg (nI_nlt (by omega) (by omega)), if_neg h3]; rfl
    · rw [if_neg h2, if_neg h2]; rfl
  · rw [if_neg h1, if_neg h1]; rfl
theorem m_number {b tape : Nat → Int32} {n p lo hi : Nat} {l0 nx pl sg so va : Int32} {wd : Int64} (hn : n ≤ 700) (hp : p ≤ n) (htp : ∀ k, k < n → tape k = b k) (hlo : lo < 2 ^ 31) (hhi : hi < 2 ^ 31) (hT : MTok b n p l0 nx pl sg so va wd) : zwp (f_X12_number (nI lo) (nI hi) 0 (-1) l0 (nI n) nx pl sg so tape va wd) (fun r => (nfO b n p lo hi = 0 → r.1 = nI (nvN b n p) ∧ r.2.1 = 0 ∧ r.2.2.1 = -1 ∧ MTok b n (nxP b n p) r.2.2.2.1 r.2.2.2.2.1 r.2.2.2.2.2.1 r.2.2.2.2.2.2.1 r.2.2.2.2.2.2.2.1 r.2.2.2.2.2.2.2.2.1 r.2.2.2.2.2.2.2.2.2) ∧ (¬ nfO b n p lo hi = 0 → r.2.1 = nI (nfO b n p lo hi) ∧ r.2.2.1 = nI p)) := by
  obtain ⟨t1, t2, t3, t4, t5, t6, t7⟩ := hT
  have hk := tK_le (b := b) (n := n) (p := p)
  obtain ⟨e1, e2, _⟩ := tE_le (b := b) hp
  unfold f_X12_number
  refine zi_beq (a := 1) rfl (zi_f (by decide) ?_)
  have hbad : ∀ k, nfO b n p lo hi = k → ¬ k = 0 → k ≤ 2 → zwp (Option.bind (f_X12_isGood (nI k)) (fun r4 => (if r4 = (0 : Int32) then some (va, nI k, pl, l0, nx, pl, sg, so, va, wd) else Option.bind (f_X12_goes l0 (nI n) nx pl sg so tape va wd) (fun q => match q with | (o5, o6, o7, o8, o9, o10, o11) => some (va, nI k, pl, o5, o6, o7, o8, o9, o10, o11))))) (fun r => (nfO b n p lo hi = 0 → r.1 = nI (nvN b n p) ∧ r.2.1 = 0 ∧ r.2.2.1 = -1 ∧ MTok b n (nxP b n p) r.2.2.2.1 r.2.2.2.2.1 r.2.2.2.2.2.1 r.2.2.2.2.2.2.1 r.2.2.2.2.2.2.2.1 r.2.2.2.2.2.2.2.2.1 r.2.2.2.2.2.2.2.2.2) ∧ (¬ nfO b n p lo hi = 0 → r.2.1 = nI (nfO b n p lo hi) ∧ r.2.2.1 = nI p)) := by
    intro k hk1 hk2 hk3
    refine zi_beq (a := 0) ?_ (zi_t rfl (zwi ⟨fun q => by omega, fun _ => ⟨by rw [hk1], t3⟩⟩))
    unfold f_X12_isGood
    rw [if_neg (fun e => hk2 ((nI_z0 (by omega)).mp e))]
  by_cases h1 : tK b n p = 2
  · refine zi_bind (zi_t (by rw [t5, h1]; rfl) ?_)
    by_cases h4 : tE b n p - p ≤ 4
    · refine zi_f (by rw [t1, show (4 : Int32) = nI 4 from rfl]; exact nI_nlt h4 (by decide)) ?_
      obtain ⟨v1, v2⟩ := nvN_ok hp h1 h4
      rw [if_pos h1, Nat.min_eq_left h4, v1] at t6
      have hnf : nfO b n p lo hi = if lo ≤ nvN b n p ∧ nvN b n p ≤ hi then 0 else 2 := by unfold nfO; rw [if_pos h1, if_pos h4]
      by_cases q1 : nvN b n p < lo
      · refine zi_t (by rw [t6]; exact nI_lt q1 hlo) (zi_beq m_wrong0 (zwi ?_))
        rw [if_neg (by omega)] at hnf
        exact hbad 2 hnf (by decide) (by decide)
      · refine zi_f (by rw [t6]; exact nI_nlt (by omega) (by omega)) ?_
        by_cases q2 : nvN b n p ≤ hi
        · refine zi_t (by rw [t6]; exact nI_le q2 hhi) (zwi ?_)
          rw [if_pos ⟨by omega, q2⟩] at hnf
          refine zi_beq (a := 1) rfl (zi_f (by decide) ?_)
          refine zi_bind (zwp_mono (m_gs hn hp htp t2) ?_)
          rintro ⟨o5, o6, o7, o8, o9, o10, o11⟩ hT2
          exact zwi ⟨fun _ => ⟨t6, rfl, rfl, hT2⟩, fun q => absurd hnf q⟩
        · refine zi_f (by rw [t6]; exact nI_ge (by omega) (by omega)) (zi_beq m_wrong0 (zwi ?_))
          rw [if_neg (fun q => q2 q.2)] at hnf
          exact hbad 2 hnf (by decide) (by decide)
    · refine zi_t (by rw [t1, show (4 : Int32) = nI 4 from rfl]; exact nI_lt (by omega) (by omega)) (zi_beq m_wrong0 (zwi ?_))
      exact hbad 2 (by unfold nfO; rw [if_pos h1, if_neg h4]) (by decide) (by decide)
  · refine zi_bind (zi_f (by rw [t5]; exact nI_ne (b := 2) (by omega) (by decide) h1) (zi_beq m_wrong0 (zwi ?_)))
    exact hbad 1 (nfO_1 h1) (by decide) (by decide)
theorem m_cellHere {b row : Nat → Int32} {n p W H wl : Nat} {l0 nx pl sg so va : Int32} {wd : Int64} (hn : n ≤ 700) (hp : p ≤ n) (hWH : W * H ≤ 36) (hr : ∀ c, c < 36 → row (33 + c) = b2 (wl.testBit c)) (hT : MTok b n p l0 nx pl sg so va wd) : zwp (f_X12_cellHere 0 (-1) l0 row (nI H) (nI W) pl so va) (fun r => (cfO b n p (W * H) wl = 0 → r = (nI (nvN b n p), 0, -1)) ∧ (¬ cfO b n p (W * H) wl = 0 → r.2.1 = nI (cfO b n p (W * H) wl) ∧ r.2.2 = nI p)) := by
  obtain ⟨t1, t2, t3, t4, t5, t6, t7⟩ := hT
  have hk := tK_le (b := b) (n := n) (p := p)
  unfold f_X12_cellHere cfO
  refine zi_beq (a := 1) rfl (zi_f (by decide) ?_)
  by_cases h1 : tK b n p = 2
  · rw [if_pos h1]
    refine zi_bind (zi_t (by rw [t5, h1]; rfl) ?_)
    by_cases h4 : tE b n p - p ≤ 4
    · rw [if_pos h4]
      refine zi_t (by rw [t1, show (4 : Int32) = nI 4 from rfl]; exact nI_le h4 (by decide)) ?_
      obtain ⟨v1, v2⟩ := nvN_ok hp h1 h4
      rw [if_pos h1, Nat.min_eq_left h4, v1] at t6
      rw [t6]
      generalize nvN b n p = v at v2
      rw [pk_mul, Nat.mul_comm W H] at *
      by_cases h3 : v < H * W
      · rw [if_pos h3]
        have hm : nI W * nI H = nI (H * W) := by rw [pk_mul, Nat.mul_comm]
        refine zi_t (nI_lt h3 (by omega)) ?_
        rw [show (33 : Int32) = nI 33 from rfl, nI_add, zbnd_nI (by omega) (by decide), nI_clamp (show 33 + v < 2 ^ 31 by omega), hr v (by omega)]
        cases hq : wl.testBit v with
        | true =>
          refine zi_t rfl (zi_beq m_wrong0 (zwi (zwi ⟨fun q => ?_, fun _ => ⟨rfl, t3⟩⟩)))
          rw [if_pos rfl] at q; omega
        | false => exact zi_f (by decide) (zwi (zwi ⟨fun _ => rfl, fun q => absurd rfl q⟩))
      · rw [if_neg h3]
        exact zi_f (nI_nlt (by omega) (by omega)) (zi_beq m_wrong0 (zwi (zwi ⟨fun q => by omega, fun _ => ⟨rfl, t3⟩⟩)))
    · rw [if_neg h4]
      exact zi_f (by rw [t1, show (4 : Int32) = nI 4 from rfl]; exact nI_ge (by omega) (by obtain ⟨e1, e2, _⟩ := tE_le (b := b) hp; omega)) (zi_beq m_wrong0 (zwi (zwi ⟨fun q => by omega, fun _ => ⟨rfl, t3⟩⟩)))
  · rw [if_neg h1]
    exact zi_bind (zi_f (by rw [t5]; exact nI_ne (b := 2) (by omega) (by decide) h1) (zi_beq m_wrong0 (zwi (zwi ⟨fun q => by omega, fun _ => ⟨rfl, t3⟩⟩))))
