/-! READING: words -/
def mw (k : Nat) : Nat := [12, 9, 6, 10, 11, 13, 2, 3, 4, 5, 7, 8, 17, 16, 15, 14].getD k 0
def wIs (b : Nat → Int32) (p l : Nat) (w : List Nat) : Bool := decide (l = w.length) && allB (fun i => b (p + i) == Int32.ofNat (w.getD i 0)) w.length
/-- whether the token at p is the known word k -/
def tw (b : Nat → Int32) (n p k : Nat) : Bool := decide (tK b n p = 1) && wIs b p (tE b n p - p) (zxt (mw k))
def kwI (b : Nat → Int32) (n p : Nat) : Int32 := fstI (tw b n p) 0 16
theorem tK_le {b : Nat → Int32} {n p : Nat} : tK b n p ≤ 4 := by
  unfold tK
  repeat' split
  all_goals omega
theorem zxt_len : ∀ k, k < 26 → (zxt k).length ≤ 30 := by decide +kernel
theorem c_isWord {b : Nat → Int32} {n p i : Nat} (hn : n ≤ 700) (hp : p ≤ n) (hi : i < 26) : zwp (f_X9_isWord i b (nI (tE b n p)) (nI (tK b n p)) (nI p)) (fun r => r = b2 (decide (tK b n p = 1) && wIs b p (tE b n p - p) (zxt i))) := by
  have hk := tK_le (b := b) (n := n) (p := p)
  have hz := zxt_len i hi
  obtain ⟨e1, e2, _⟩ := tE_le (b := b) hp
  unfold f_X9_isWord
  by_cases h1 : tK b n p = 1
  · refine zi_t (by rw [h1]; rfl) ?_
    rw [decide_eq_true h1, Bool.true_and, pk_sub e1]
    refine zi_beq (a := nI (zxt i).length) rfl ?_
    unfold wIs
    by_cases h2 : tE b n p - p = (zxt i).length
    · refine zi_t (by rw [h2]) ?_
      rw [decide_eq_true h2, Bool.true_and]
      generalize hw : zxt i = w at h2 hz
      refine zl_bs (P := fun k a => a = nI k ∧ ∀ j, j < k → (b (p + j) == Int32.ofNat (w.getD j 0)) = true) (Post := fun _ => allB (fun i => b (p + i) == Int32.ofNat (w.getD i 0)) w.length = true) w.length (by omega) ⟨rfl, fun j hj => by omega⟩ ?_ ?_ ?_
      · rintro k hk _ ⟨rfl, h⟩
        refine zi_beq (a := nI w.length) (by unfold zx_269; rw [hw]; rfl) ?_
        refine zi_f (nI_ge hk (by omega)) ?_
        rw [nI_add, zbnd_nI (by omega) (by decide), nI_clamp (show p + k < 2 ^ 31 by omega)]
        refine zi_beq (a := Int32.ofNat (w.getD k 0)) ?_ ?_
        · unfold zx_270
          rw [hw, zbnd_nI hk (by omega), nI_clamp (by omega)]
        refine zi_c (fun q => zwi ⟨by rw [nI_1], fun j hj => ?_⟩) (fun q => zwi ?_)
        · by_cases ej : j = k
          · rw [ej, q]; exact beq_self_eq_true _
          · exact h j (by omega)
        · show (0 : Int32) = b2 (allB (fun i => b (p + i) == Int32.ofNat (w.getD i 0)) w.length)
          cases ha : allB (fun i => b (p + i) == Int32.ofNat (w.getD i 0)) w.length with
          | false => rfl
          | true =>
            have := allB_iff.mp ha k hk
            rw [beq_false_of_ne q] at this
            cases this
      · rintro _ ⟨rfl, h⟩
        refine zi_beq (a := nI w.length) (by unfold zx_269; rw [hw]; rfl) ?_
        exact zi_t (nI_le (Nat.le_refl _) (by omega)) (zwi (allB_iff.mpr h))
      · intro _ h
        exact zwi (by rw [h]; rfl)
    · refine zi_f (fun e => ?_) (zwi (by rw [decide_eq_false h2]; rfl))
      rw [nI_eq (by omega) (by omega)] at e
      exact h2 e
  · refine zi_f (fun e => ?_) (zwi (by rw [decide_eq_false h1]; rfl))
    rw [show (1 : Int32) = nI 1 from rfl, nI_eq (by omega) (by decide)] at e
    exact h1 e
def wDf (u v : List Nat) : Bool := u.length != v.length || (List.range u.length).any (fun i => Int32.ofNat (u.getD i 0) != Int32.ofNat (v.getD i 0))
theorem mw_df : ∀ k, k < 16 → ∀ j, j < 16 → (k == j || wDf (zxt (mw k)) (zxt (mw j))) = true := by decide +kernel
theorem tw_one {b : Nat → Int32} {n p k j : Nat} (hk : k < 16) (hj : j < 16) (h1 : tw b n p k = true) (h2 : tw b n p j = true) : k = j := by
  have h := mw_df k hk j hj
  rw [Bool.or_eq_true, beq_iff_eq] at h
  refine h.resolve_right (fun hd => ?_)
  unfold tw at h1 h2
  rw [Bool.and_eq_true] at h1 h2
  have w1 := h1.2
  have w2 := h2.2
  unfold wIs at w1 w2
  rw [Bool.and_eq_true, decide_eq_true_iff, allB_iff] at w1 w2
  unfold wDf at hd
  rw [Bool.or_eq_true, bne_iff_ne, List.any_eq_true] at hd
  rcases hd with hd | ⟨i, hi, hd⟩
  · exact hd (w1.1.symm.trans w2.1)
  · rw [List.mem_range] at hi
    rw [bne_iff_ne] at hd
    have a1 := eq_of_beq (w1.2 i hi)
    have a2 := eq_of_beq (w2.2 i (by omega))
    exact hd (a1.symm.trans a2)
theorem kw_iff {b : Nat → Int32} {n p k : Nat} (hk : k < 16) : kwI b n p = nI k ↔ tw b n p k = true := by
  unfold kwI
  rcases fstI_cs (p := tw b n p) 16 0 with ⟨e, h⟩ | ⟨j, _, hj, hp, e⟩
  · rw [e, h k (by omega) (by omega)]
    exact ⟨fun h => absurd h.symm (nI_nm1 (by omega)), fun h => by cases h⟩
  · rw [e, nI_eq (by omega) (by omega)]
    constructor
    · intro h; rw [← h]; exact hp
    · intro h; exact tw_one (by omega) hk hp h
theorem kw_cs {b : Nat → Int32} {n p : Nat} : (kwI b n p = -1 ∧ ∀ k, k < 16 → tw b n p k = false) ∨ ∃ k, k < 16 ∧ kwI b n p = nI k ∧ tw b n p k = true := by
  unfold kwI
  rcases fstI_cs (p := tw b n p) 16 0 with ⟨e, h⟩ | ⟨j, _, hj, hp, e⟩
  · exact .inl ⟨e, fun k hk => h k (by omega) (by omega)⟩
  · exact .inr ⟨j, by omega, e, hp⟩
/-- letters as digits -/
def dN (f : Nat → Nat) : Nat → Nat
  | 0 => 0
  | k + 1 => dN f k * 32 + f k
theorem dN_inj {f g : Nat → Nat} : ∀ {k m : Nat}, (∀ i, i < k → 1 ≤ f i ∧ f i < 32) → (∀ i, i < m → 1 ≤ g i ∧ g i < 32) → dN f k = dN g m → k = m ∧ ∀ i, i < k → f i = g i
  | 0, 0, _, _, _ => ⟨rfl, fun i hi => by omega⟩
  | 0, m + 1, _, hg, e => by
    have := hg m (by omega)
    have e' : (0 : Nat) = dN g m * 32 + g m := e
    omega
  | k + 1, 0, hf, _, e => by
    have := hf k (by omega)
    have e' : dN f k * 32 + f k = 0 := e
    omega
  | k + 1, m + 1, hf, hg, e => by
    have a := hf k (by omega)
    have c := hg m (by omega)
    have e' : dN f k * 32 + f k = dN g m * 32 + g m := e
    obtain ⟨h1, h2⟩ := dN_inj (f := f) (g := g) (k := k) (m := m) (fun i hi => hf i (by omega)) (fun i hi => hg i (by omega)) (by omega)
    subst h1
    refine ⟨rfl, fun i hi => ?_⟩
    by_cases q : i = k
    · rw [q]; omega
    · exact h2 i (by omega)
theorem dN_lt {f : Nat → Nat} : ∀ k, (∀ i, i < k → f i < 32) → dN f k < 32 ^ k
  | 0, _ => show (0 : Nat) < 1 from Nat.one_pos
  | k + 1, h => by
    have h1 := dN_lt (f := f) k (fun i hi => h i (by omega))
    have h2 := h k (by omega)
    show dN f k * 32 + f k < 32 ^ (k + 1)
    rw [Nat.pow_succ]
    omega
theorem isLt_b {c : Int32} (h : isLt c = true) : ∃ x, 97 ≤ x ∧ x ≤ 122 ∧ c = nI x := by
  unfold isLt at h
  rw [Bool.and_eq_true, Bool.not_eq_true', Bool.not_eq_true', decide_eq_false_iff_not, decide_eq_false_iff_not] at h
  obtain ⟨h1, h2⟩ := h
  rw [fa_lt] at h1 h2
  have e1 : (97 : Int32).toInt = 97 := by decide
  have e2 : (122 : Int32).toInt = 122 := by decide
  refine ⟨c.toInt.toNat, by omega, by omega, ?_⟩
  rw [fa_eq, nI_toInt (by omega)]
  omega
/-- a letter's digit -/
def lv (c : Int32) : Nat := c.toInt.toNat - 96
theorem lv_n {x : Nat} (h : x < 2 ^ 31) : lv (nI x) = x - 96 := by unfold lv; rw [nI_toInt h]; omega
theorem wd_dN {b : Nat → Int32} {p : Nat} : ∀ k, k ≤ 6 → (∀ i, i < k → isLt (b (p + i)) = true) → wdI b p k = lN (dN (fun i => lv (b (p + i))) k)
  | 0, _, _ => rfl
  | k + 1, hk, h => by
    have ih := wd_dN (b := b) (p := p) k (by omega) (fun i hi => h i (by omega))
    obtain ⟨x, x1, x2, hx⟩ := isLt_b (h k (by omega))
    show (wdI b p k <<< ((5 : Int32).toInt64 &&& 63)) ||| ((b (p + k) - 96).toInt64) = lN (dN (fun i => lv (b (p + i))) k * 32 + lv (b (p + k)))
    rw [ih, hx, lv_n (by omega), show (5 : Int32) = nI 5 from rfl, wb_shl _ (by decide), show (96 : Int32) = nI 96 from rfl, pk_sub (by omega), nI_l (by omega), show 2 ^ 5 = 32 from rfl, fb_orL]
    congr 1
    have := Nat.two_pow_add_eq_or_of_lt (i := 5) (b := x - 96) (by omega) (dN (fun i => lv (b (p + i))) k)
    rw [show 2 ^ 5 = 32 from rfl] at this
    rw [Nat.mul_comm, ← this]
theorem mw_let : ∀ k, k < 16 → f_X12_letters (nI k) = some (lN (dN (fun i => (zxt (mw k)).getD i 0 - 96) (zxt (mw k)).length)) := by decide +kernel
theorem mw_dig : ∀ k, k < 16 → ((zxt (mw k)).length ≤ 6 ∧ ∀ i, i < 6 → i < (zxt (mw k)).length → 97 ≤ (zxt (mw k)).getD i 0 ∧ (zxt (mw k)).getD i 0 ≤ 122) := by decide +kernel
theorem m_knownWord {b : Nat → Int32} {n p : Nat} (hn : n ≤ 700) (hp : p ≤ n) : zwp (f_X12_knownWord (nI (tE b n p - p)) (nI (tK b n p)) (if tK b n p = 1 then wdI b p (min (tE b n p - p) 6) else 0)) (fun r => r = kwI b n p) := by
  have hk4 := tK_le (b := b) (n := n) (p := p)
  obtain ⟨e1, e2, _⟩ := tE_le (b := b) hp
  unfold f_X12_knownWord
  have hno : (∀ k, k < 16 → tw b n p k = false) → kwI b n p = -1 := fun h => by
    rcases kw_cs (b := b) (n := n) (p := p) with ⟨e, _⟩ | ⟨k, hk, _, ht⟩
    · exact e
    · rw [h k hk] at ht; cases ht
  by_cases h1 : tK b n p = 1
  · refine zi_t (by rw [h1]; rfl) ?_
    rw [if_pos h1]
    by_cases h2 : tE b n p - p ≤ 6
    · refine zi_t (by rw [show (6 : Int32) = nI 6 from rfl]; exact nI_le h2 (by decide)) ?_
      rw [Nat.min_eq_left h2]
      have hlet : ∀ i, i < tE b n p - p → isLt (b (p + i)) = true := by
        intro i hi
        unfold tK at h1
        unfold tE at hi
        by_cases q : p < n
        · rw [if_pos q] at h1 hi
          cases hl : isLt (b p) with
          | true =>
            rw [hl, if_pos rfl] at hi
            exact scan_in (q := fun j => isLt (b j)) (n := n) (p := p) hp (by omega) (by omega)
          | false =>
            rw [hl, if_neg (by decide)] at h1
            exfalso
            revert h1
            repeat' split
            all_goals omega
        · rw [if_neg q] at h1; omega
      rw [wd_dN _ h2 hlet]
      generalize hl : tE b n p - p = l at h2 hlet e1
      have hbd : ∀ i, i < l → 1 ≤ lv (b (p + i)) ∧ lv (b (p + i)) < 32 := fun i hi => by
        obtain ⟨x, x1, x2, hx⟩ := isLt_b (hlet i hi)
        rw [hx, lv_n (by omega)]; omega
      have key : ∀ k, k < 16 → (lN (dN (fun i => (zxt (mw k)).getD i 0 - 96) (zxt (mw k)).length) = lN (dN (fun i => lv (b (p + i))) l) ↔ tw b n p k = true) := by
        intro k hk
        obtain ⟨m1, m2⟩ := mw_dig k hk
        have q1 := dN_lt (f := fun i => (zxt (mw k)).getD i 0 - 96) (zxt (mw k)).length (fun i hi => by have := m2 i (by omega) hi; show (zxt (mw k)).getD i 0 - 96 < 32; omega)
        have q2 := dN_lt (f := fun i => lv (b (p + i))) l (fun i hi => (hbd i hi).2)
        have q3 : (32 : Nat) ^ (zxt (mw k)).length ≤ 32 ^ 6 := Nat.pow_le_pow_right (by decide) m1
        have q4 : (32 : Nat) ^ l ≤ 32 ^ 6 := Nat.pow_le_pow_right (by decide) h2
        have q5 : (32 : Nat) ^ 6 < 2 ^ 63 := by decide
        rw [fb_lN_inj (by omega) (by omega)]
        unfold tw wIs
        rw [decide_eq_true h1, Bool.true_and, Bool.and_eq_true, decide_eq_true_iff, allB_iff, hl]
        constructor
        · intro e
          obtain ⟨a1, a2⟩ := dN_inj (fun i hi => by have := m2 i (by omega) hi; show 1 ≤ (zxt (mw k)).getD i 0 - 96 ∧ (zxt (mw k)).getD i 0 - 96 < 32; omega) hbd e
          refine ⟨a1.symm, fun i hi => ?_⟩
          have a3 : (zxt (mw k)).getD i 0 - 96 = lv (b (p + i)) := a2 i hi
          obtain ⟨x, x1, x2, hx⟩ := isLt_b (hlet i (by omega))
          rw [hx, lv_n (by omega)] at a3
          have := m2 i (by omega) hi
          rw [hx, show (zxt (mw k)).getD i 0 = x by omega]
          exact beq_self_eq_true _
        · rintro ⟨a1, a2⟩
          have gg : ∀ m, m ≤ l → dN (fun i => (zxt (mw k)).getD i 0 - 96) m = dN (fun i => lv (b (p + i))) m := by
            intro m
            induction m with
            | zero => intro _; rfl
            | succ m ih =>
              intro hm
              show dN _ m * 32 + ((zxt (mw k)).getD m 0 - 96) = dN _ m * 32 + lv (b (p + m))
              rw [ih (by omega), eq_of_beq (a2 m (by omega))]
              have := m2 m (by omega) (by omega)
              rw [show Int32.ofNat ((zxt (mw k)).getD m 0) = nI ((zxt (mw k)).getD m 0) from rfl, lv_n (by omega)]
          rw [← a1]; exact gg l (Nat.le_refl _)
      refine zl_bs (P := fun k a => a = nI k ∧ kwI b n p = fstI (tw b n p) k (16 - k)) (Post := fun _ => kwI b n p = -1) 16 (by decide) ⟨rfl, rfl⟩ ?_ ?_ ?_
      · rintro k hk _ ⟨rfl, h⟩
        refine zi_f (by rw [show (16 : Int32) = nI 16 from rfl]; exact nI_ge hk (by decide)) ?_
        refine zi_beq (mw_let k hk) ?_
        rw [show 16 - k = (15 - k) + 1 by omega] at h
        refine zi_c (fun q => zwi ?_) (fun q => zwi ?_)
        · show nI k = kwI b n p
          rw [h, fstI_t ((key k hk).mp (lg_cmp_0.mp q))]
        · rw [fstI_f (lo := k) (fun e => q (lg_cmp_0.mpr ((key k hk).mpr e)))] at h
          exact ⟨by rw [nI_1], by rw [h]; congr 1; omega⟩
      · rintro _ ⟨rfl, h⟩
        exact zi_t (by decide) (zwi h)
      · intro _ h; exact zwi h.symm
    · refine zi_f (by rw [show (6 : Int32) = nI 6 from rfl]; exact nI_ge (by omega) (by omega)) (zwi ?_)
      refine (hno (fun k hk => ?_)).symm
      have := (mw_dig k hk).1
      unfold tw wIs
      rw [decide_eq_false (show ¬ tE b n p - p = (zxt (mw k)).length by omega), Bool.false_and, Bool.and_false]
  · refine zi_f (fun e => ?_) (zwi ?_)
    · rw [show (1 : Int32) = nI 1 from rfl, nI_eq (by omega) (by decide)] at e
      exact h1 e
    · refine (hno (fun k hk => ?_)).symm
      unfold tw
      rw [decide_eq_false h1, Bool.false_and]
theorem c_w2 {b : Nat → Int32} {n p : Nat} (hn : n ≤ 700) (hp : p ≤ n) : zwp (f_X9_isWord 2 b (nI (tE b n p)) (nI (tK b n p)) (nI p)) (fun r => r = b2 (tw b n p 6)) := c_isWord hn hp (by decide)
theorem c_w3 {b : Nat → Int32} {n p : Nat} (hn : n ≤ 700) (hp : p ≤ n) : zwp (f_X9_isWord 3 b (nI (tE b n p)) (nI (tK b n p)) (nI p)) (fun r => r = b2 (tw b n p 7)) := c_isWord hn hp (by decide)
theorem c_w4 {b : Nat → Int32} {n p : Nat} (hn : n ≤ 700) (hp : p ≤ n) : zwp (f_X9_isWord 4 b (nI (tE b n p)) (nI (tK b n p)) (nI p)) (fun r => r = b2 (tw b n p 8)) := c_isWord hn hp (by decide)
theorem c_w5 {b : Nat → Int32} {n p : Nat} (hn : n ≤ 700) (hp : p ≤ n) : zwp (f_X9_isWord 5 b (nI (tE b n p)) (nI (tK b n p)) (nI p)) (fun r => r = b2 (tw b n p 9)) := c_isWord hn hp (by decide)
theorem c_w6 {b : Nat → Int32} {n p : Nat} (hn : n ≤ 700) (hp : p ≤ n) : zwp (f_X9_isWord 6 b (nI (tE b n p)) (nI (tK b n p)) (nI p)) (fun r => r = b2 (tw b n p 2)) := c_isWord hn hp (by decide)
theorem c_w7 {b : Nat → Int32} {n p : Nat} (hn : n ≤ 700) (hp : p ≤ n) : zwp (f_X9_isWord 7 b (nI (tE b n p)) (nI (tK b n p)) (nI p)) (fun r => r = b2 (tw b n p 10)) := c_isWord hn hp (by decide)
theorem c_w8 {b : Nat → Int32} {n p : Nat} (hn : n ≤ 700) (hp : p ≤ n) : zwp (f_X9_isWord 8 b (nI (tE b n p)) (nI (tK b n p)) (nI p)) (fun r => r = b2 (tw b n p 11)) := c_isWord hn hp (by decide)
theorem c_w9 {b : Nat → Int32} {n p : Nat} (hn : n ≤ 700) (hp : p ≤ n) : zwp (f_X9_isWord 9 b (nI (tE b n p)) (nI (tK b n p)) (nI p)) (fun r => r = b2 (tw b n p 1)) := c_isWord hn hp (by decide)
theorem c_w10 {b : Nat → Int32} {n p : Nat} (hn : n ≤ 700) (hp : p ≤ n) : zwp (f_X9_isWord 10 b (nI (tE b n p)) (nI (tK b n p)) (nI p)) (fun r => r = b2 (tw b n p 3)) := c_isWord hn hp (by decide)
theorem c_w11 {b : Nat → Int32} {n p : Nat} (hn : n ≤ 700) (hp : p ≤ n) : zwp (f_X9_isWord 11 b (nI (tE b n p)) (nI (tK b n p)) (nI p)) (fun r => r = b2 (tw b n p 4)) := c_isWord hn hp (by decide)
theorem c_w12 {b : Nat → Int32} {n p : Nat} (hn : n ≤ 700) (hp : p ≤ n) : zwp (f_X9_isWord 12 b (nI (tE b n p)) (nI (tK b n p)) (nI p)) (fun r => r = b2 (tw b n p 0)) := c_isWord hn hp (by decide)
theorem c_w13 {b : Nat → Int32} {n p : Nat} (hn : n ≤ 700) (hp : p ≤ n) : zwp (f_X9_isWord 13 b (nI (tE b n p)) (nI (tK b n p)) (nI p)) (fun r => r = b2 (tw b n p 5)) := c_isWord hn hp (by decide)
theorem c_w14 {b : Nat → Int32} {n p : Nat} (hn : n ≤ 700) (hp : p ≤ n) : zwp (f_X9_isWord 14 b (nI (tE b n p)) (nI (tK b n p)) (nI p)) (fun r => r = b2 (tw b n p 15)) := c_isWord hn hp (by decide)
theorem c_w15 {b : Nat → Int32} {n p : Nat} (hn : n ≤ 700) (hp : p ≤ n) : zwp (f_X9_isWord 15 b (nI (tE b n p)) (nI (tK b n p)) (nI p)) (fun r => r = b2 (tw b n p 14)) := c_isWord hn hp (by decide)
theorem c_w16 {b : Nat → Int32} {n p : Nat} (hn : n ≤ 700) (hp : p ≤ n) : zwp (f_X9_isWord 16 b (nI (tE b n p)) (nI (tK b n p)) (nI p)) (fun r => r = b2 (tw b n p 13)) := c_isWord hn hp (by decide)
theorem c_w17 {b : Nat → Int32} {n p : Nat} (hn : n ≤ 700) (hp : p ≤ n) : zwp (f_X9_isWord 17 b (nI (tE b n p)) (nI (tK b n p)) (nI p)) (fun r => r = b2 (tw b n p 12)) := c_isWord hn hp (by decide)
