/-! READING: tokens -/
def scanF (q : Nat → Bool) : Nat → Nat → Nat
  | 0, p => p
  | d + 1, p => if q p then scanF q d (p + 1) else p
def scan (q : Nat → Bool) (n p : Nat) : Nat := scanF q (n - p) p
theorem scan_t {q : Nat → Bool} {n p : Nat} (h : q p = true) (hp : p < n) : scan q n p = scan q n (p + 1) := by
  unfold scan
  rw [show n - p = (n - (p + 1)) + 1 by omega]
  show (if q p then _ else _) = _
  rw [if_pos h]
theorem scan_f {q : Nat → Bool} {n p : Nat} (h : q p = false) : scan q n p = p := by
  unfold scan
  cases n - p with
  | zero => rfl
  | succ d =>
    show (if q p then _ else _) = _
    rw [if_neg (by rw [h]; decide)]
theorem scan_n {q : Nat → Bool} {n p : Nat} (h : n ≤ p) : scan q n p = p := by
  unfold scan
  rw [show n - p = 0 by omega]; rfl
theorem scan_ok {q : Nat → Bool} {n : Nat} : ∀ d p, d = n - p → p ≤ n → p ≤ scan q n p ∧ scan q n p ≤ n ∧ (∀ j, p ≤ j → j < scan q n p → q j = true) ∧ (scan q n p < n → q (scan q n p) = false)
  | 0, p, hd, hp => by
    rw [scan_n (show n ≤ p by omega)]
    exact ⟨Nat.le_refl _, hp, fun j h1 h2 => by omega, fun h => by omega⟩
  | d + 1, p, hd, hp => by
    cases h : q p with
    | false =>
      rw [scan_f h]
      exact ⟨Nat.le_refl _, hp, fun j h1 h2 => by omega, fun _ => h⟩
    | true =>
      rw [scan_t h (by omega)]
      obtain ⟨a, b, c, e⟩ := scan_ok (q := q) (n := n) d (p + 1) (by omega) (by omega)
      refine ⟨by omega, b, fun j h1 h2 => ?_, e⟩
      by_cases q2 : j = p
      · rw [q2]; exact h
      · exact c j (by omega) h2
theorem scan_le {q : Nat → Bool} {n p : Nat} (hp : p ≤ n) : scan q n p ≤ n := (scan_ok (q := q) _ p rfl hp).2.1
theorem scan_ge {q : Nat → Bool} {n p : Nat} (hp : p ≤ n) : p ≤ scan q n p := (scan_ok (q := q) _ p rfl hp).1
theorem scan_in {q : Nat → Bool} {n p j : Nat} (hp : p ≤ n) (h1 : p ≤ j) (h2 : j < scan q n p) : q j = true := (scan_ok (q := q) _ p rfl hp).2.2.1 j h1 h2
theorem scan_gt {q : Nat → Bool} {n p : Nat} (hp : p < n) (h : q p = true) : p < scan q n p := by
  rw [scan_t h hp]
  have := scan_ge (q := q) (n := n) (p := p + 1) (by omega)
  omega
def isBl (c : Int32) : Bool := decide (c = 32) || decide (c = 10)
def isLt (c : Int32) : Bool := !decide (c < 97) && !decide (122 < c)
def isDg (c : Int32) : Bool := !decide (c < 48) && !decide (57 < c)
def isSg (c : Int32) : Bool := (zxt 1).any (fun b => c == Int32.ofNat b)
theorem c_isLetter (c : Int32) : f_X9_isLetter c = some (b2 (isLt c)) := by
  unfold f_X9_isLetter isLt
  by_cases h : c < 97
  · rw [if_pos h, decide_eq_true h]; rfl
  · rw [if_neg h, decide_eq_false h]
    by_cases h2 : 122 < c
    · rw [if_pos h2, decide_eq_true h2]; rfl
    · rw [if_neg h2, decide_eq_false h2]; rfl
theorem c_isDigit (c : Int32) : f_X9_isDigit c = some (b2 (isDg c)) := by
  unfold f_X9_isDigit isDg
  by_cases h : c < 48
  · rw [if_pos h, decide_eq_true h]; rfl
  · rw [if_neg h, decide_eq_false h]
    by_cases h2 : 57 < c
    · rw [if_pos h2, decide_eq_true h2]; rfl
    · rw [if_neg h2, decide_eq_false h2]; rfl
theorem m_isLetter (c : Int32) : f_X12_isLetter c = some (b2 (isLt c)) := c_isLetter c
theorem m_isDigit (c : Int32) : f_X12_isDigit c = some (b2 (isDg c)) := c_isDigit c
/-- the place, the kind and the end of the token from e on -/
def tP (b : Nat → Int32) (n e : Nat) : Nat := scan (fun j => isBl (b j)) n e
def tK (b : Nat → Int32) (n p : Nat) : Nat := if p < n then (if isLt (b p) then 1 else if isDg (b p) then 2 else if isSg (b p) then 3 else 4) else 0
def tE (b : Nat → Int32) (n p : Nat) : Nat := if p < n then (if isLt (b p) then scan (fun j => isLt (b j)) n p else if isDg (b p) then scan (fun j => isDg (b j)) n p else p + 1) else p
/-- a number's digits; a word's letters -/
def nvI (b : Nat → Int32) (p : Nat) : Nat → Int32
  | 0 => 0
  | k + 1 => nvI b p k * 10 + (b (p + k) - 48)
def wdI (b : Nat → Int32) (p : Nat) : Nat → Int64
  | 0 => 0
  | k + 1 => (wdI b p k <<< ((5 : Int32).toInt64 &&& 63)) ||| ((b (p + k) - 96).toInt64)
theorem tP_le {b : Nat → Int32} {n e : Nat} (h : e ≤ n) : e ≤ tP b n e ∧ tP b n e ≤ n := ⟨scan_ge h, scan_le h⟩
theorem tE_le {b : Nat → Int32} {n p : Nat} (h : p ≤ n) : p ≤ tE b n p ∧ tE b n p ≤ n ∧ (p < n → p < tE b n p) := by
  unfold tE
  by_cases hp : p < n
  · rw [if_pos hp]
    cases h1 : isLt (b p) with
    | true =>
      rw [if_pos rfl]
      exact ⟨scan_ge h, scan_le h, fun _ => scan_gt hp h1⟩
    | false =>
      rw [if_neg (by decide)]
      cases h2 : isDg (b p) with
      | true =>
        rw [if_pos rfl]
        exact ⟨scan_ge h, scan_le h, fun _ => scan_gt hp h2⟩
      | false =>
        rw [if_neg (by decide)]
        exact ⟨by omega, by omega, fun _ => by omega⟩
  · rw [if_neg hp]; exact ⟨Nat.le_refl _, h, fun q => absurd q hp⟩
theorem c_skip {α : Type} {b : Nat → Int32} {n e : Nat} {k : Int32 → Option α} {Q : α → Prop} (hn : n ≤ 700) (he : e ≤ n) (hk : zwp (k (nI (tP b n e))) Q) : zwp (Option.bind (α := Int32) (zitr (α := Int32) (β := Int32) (fun (x1 : Int32) => (if nI n ≤ x1 then some (.inr x1) else zbnd x1 700 ((if (b x1.toNatClampNeg) = (32 : Int32) then some (.inl (x1 + (1 : Int32))) else zbnd x1 700 ((if (b x1.toNatClampNeg) = (10 : Int32) then some (.inl (x1 + (1 : Int32))) else some (.inr x1))))))) zFU (nI e)) k) Q := by
  refine zl_bind (P := fun i a => a = nI (e + i) ∧ e + i ≤ n ∧ tP b n e = tP b n (e + i)) (Post := fun a => a = nI (tP b n e)) (n - e) (by omega) ⟨rfl, he, rfl⟩ ?_ ?_ ?_
  · rintro i hi _ ⟨rfl, h1, h2⟩
    refine zi_f (nI_ge (by omega) (by omega)) ?_
    rw [zbnd_nI (by omega) (by decide), nI_clamp (by omega)]
    have hgo : isBl (b (e + i)) = true → tP b n e = tP b n (e + (i + 1)) := fun h => h2.trans (scan_t h (by omega))
    refine zi_c (fun q => zwi ⟨by rw [nI_1]; rfl, by omega, hgo (by unfold isBl; rw [decide_eq_true q]; rfl)⟩) (fun q => ?_)
    rw [zbnd_nI (by omega) (by decide)]
    refine zi_c (fun q2 => zwi ⟨by rw [nI_1]; rfl, by omega, hgo (by unfold isBl; rw [decide_eq_true q2, Bool.or_true])⟩) (fun q2 => zwi ?_)
    rw [h2]
    show nI (e + i) = nI (scan _ n (e + i))
    rw [scan_f (by show isBl _ = false; unfold isBl; rw [decide_eq_false q, decide_eq_false q2]; rfl)]
  · rintro _ ⟨rfl, h1, h2⟩
    refine zi_t (nI_le (by omega) (by omega)) (zwi ?_)
    rw [h2]
    show nI (e + (n - e)) = nI (scan _ n (e + (n - e)))
    rw [scan_n (by omega)]
  · rintro _ rfl; exact hk
theorem c_readNumber {b : Nat → Int32} {n p : Nat} {kd nm : Int32} (hn : n ≤ 700) (hp : p ≤ n) : zwp (f_X9_readNumber b (nI p) kd (nI n) nm) (fun r => r = (nI (scan (fun j => isDg (b j)) n p), 2, nvI b p (scan (fun j => isDg (b j)) n p - p))) := by
  unfold f_X9_readNumber
  refine zl_bind (P := fun i a => a = (nI (p + i), nvI b p i) ∧ p + i ≤ n ∧ scan (fun j => isDg (b j)) n p = scan (fun j => isDg (b j)) n (p + i)) (Post := fun a => a = (nI (scan (fun j => isDg (b j)) n p), nvI b p (scan (fun j => isDg (b j)) n p - p))) (n - p) (by omega) ⟨rfl, hp, rfl⟩ ?_ ?_ ?_
  · rintro i hi _ ⟨rfl, h1, h2⟩
    refine zi_f (nI_ge (by omega) (by omega)) ?_
    rw [zbnd_nI (by omega) (by decide), nI_clamp (show p + i < 2 ^ 31 by omega)]
    refine zi_beq (c_isDigit _) ?_
    cases h : isDg (b (p + i)) with
    | true =>
      refine zi_f (by decide) ?_
      rw [zbnd_nI (by omega) (by decide)]
      exact zwi ⟨by rw [nI_1]; rfl, by omega, h2.trans (scan_t h (by omega))⟩
    | false =>
      refine zi_t rfl (zwi ?_)
      rw [h2, scan_f h, show p + i - p = i by omega]; rfl
  · rintro _ ⟨rfl, h1, h2⟩
    refine zi_t (nI_le (by omega) (by omega)) (zwi ?_)
    rw [h2, scan_n (by omega), show p + (n - p) - p = n - p by omega]; rfl
  · rintro _ rfl; exact zwi rfl
theorem c_advance {b : Nat → Int32} {n e : Nat} {kd nm pl : Int32} (hn : n ≤ 700) (he : e ≤ n) : zwp (f_X9_advance b (nI e) kd (nI n) nm pl) (fun r => r = (nI (tE b n (tP b n e)), nI (tK b n (tP b n e)), (if tK b n (tP b n e) = 2 then nvI b (tP b n e) (tE b n (tP b n e) - tP b n e) else nm), nI (tP b n e))) := by
  unfold f_X9_advance
  refine c_skip hn he ?_
  have hp := (tP_le (b := b) he).2
  generalize tP b n e = p at hp
  unfold tE tK
  by_cases h : p < n
  · refine zi_t (nI_lt h (by omega)) ?_
    rw [if_pos h, if_pos h, zbnd_nI (by omega) (by decide), nI_clamp (show p < 2 ^ 31 by omega)]
    refine zi_beq (c_isLetter _) ?_
    cases h1 : isLt (b p) with
    | true =>
      refine zi_f (by decide) ?_
      rw [if_pos rfl, if_pos rfl, if_neg (show ¬ (1 : Nat) = 2 by decide)]
      refine zl_bind (P := fun i a => a = nI (p + i) ∧ p + i ≤ n ∧ scan (fun j => isLt (b j)) n p = scan (fun j => isLt (b j)) n (p + i)) (Post := fun a => a = nI (scan (fun j => isLt (b j)) n p)) (n - p) (by omega) ⟨rfl, by omega, rfl⟩ ?_ ?_ ?_
      · rintro i hi _ ⟨rfl, a1, a2⟩
        refine zi_f (nI_ge (by omega) (by omega)) ?_
        rw [zbnd_nI (by omega) (by decide), nI_clamp (show p + i < 2 ^ 31 by omega)]
        refine zi_beq (c_isLetter _) ?_
        cases h2 : isLt (b (p + i)) with
        | true => exact zi_f (by decide) (zwi ⟨by rw [nI_1]; rfl, by omega, a2.trans (scan_t h2 (by omega))⟩)
        | false => exact zi_t rfl (zwi (by rw [a2, scan_f h2]; rfl))
      · rintro _ ⟨rfl, a1, a2⟩
        exact zi_t (nI_le (by omega) (by omega)) (zwi (by rw [a2, scan_n (by omega)]; rfl))
      · rintro _ rfl; exact zwi rfl
    | false =>
      refine zi_t rfl ?_
      rw [if_neg (show ¬ false = true by decide), if_neg (show ¬ false = true by decide)]
      refine zi_beq (c_isDigit _) ?_
      cases h2 : isDg (b p) with
      | true =>
        refine zi_f (by decide) ?_
        rw [if_pos rfl, if_pos rfl, if_pos rfl]
        refine zi_bind (zwp_mono (c_readNumber hn hp) ?_)
        rintro _ rfl
        exact zwi rfl
      | false =>
        refine zi_t rfl ?_
        rw [if_neg (show ¬ false = true by decide), if_neg (show ¬ false = true by decide)]
        unfold zx_271
        refine zi_beq rfl ?_
        cases h3 : isSg (b p) with
        | true =>
          have h3' : (zxt 1).any (fun x => b p == Int32.ofNat x) = true := h3
          rw [if_pos rfl, if_neg (show ¬ (3 : Nat) = 2 by decide)]
          refine zi_bind (zi_f ?_ (zwi (zwi (by rw [nI_1]; rfl))))
          rw [if_pos h3']
          exact nI_pos (Nat.lt_of_le_of_lt List.findIdx_le_length (by decide))
        | false =>
          have h3' : ¬ (zxt 1).any (fun x => b p == Int32.ofNat x) = true := by rw [show (zxt 1).any (fun x => b p == Int32.ofNat x) = isSg (b p) from rfl, h3]; decide
          rw [if_neg (show ¬ false = true by decide), if_neg (show ¬ (4 : Nat) = 2 by decide)]
          refine zi_bind (zi_t ?_ (zwi (zwi (by rw [nI_1]; rfl))))
          rw [if_neg h3']
          decide
  · refine zi_f (nI_nlt (by omega) (by omega)) ?_
    rw [if_neg h, if_neg h]
    exact zwi rfl
theorem m_byteAt {b tape : Nat → Int32} {n j : Nat} (hn : n ≤ 700) (hj : j ≤ n) (ht : ∀ k, k < n → tape k = b k) : f_X12_byteAt (nI j) (nI n) tape = some (if j < n then b j else 0) := by
  unfold f_X12_byteAt
  by_cases h : j < n
  · rw [if_neg (nI_ge h (by omega)), if_pos h, zbnd_nI (by omega) (by decide), nI_clamp (by omega), ht j h]
  · rw [if_pos (nI_le (by omega) (by omega)), if_neg h]
theorem nv_m (x c : Int32) : ((10 : Int32) * x + c) - 48 = x * 10 + (c - 48) := by
  rw [Int32.mul_comm, Int32.sub_eq_add_neg, Int32.sub_eq_add_neg, Int32.add_assoc]
theorem isDg0 : isDg 0 = false := by decide
theorem isLt0 : isLt 0 = false := by decide
theorem m_goes {b tape : Nat → Int32} {n e : Nat} {l0 pl sg so va : Int32} {wd : Int64} (hn : n ≤ 700) (he : e ≤ n) (ht : ∀ k, k < n → tape k = b k) : zwp (f_X12_goes l0 (nI n) (nI e) pl sg so tape va wd) (fun r => r = (nI (tE b n (tP b n e) - tP b n e), nI (tE b n (tP b n e)), nI (tP b n e), (if tP b n e < n then b (tP b n e) else 0), nI (tK b n (tP b n e)), (if tK b n (tP b n e) = 2 then nvI b (tP b n e) (min (tE b n (tP b n e) - tP b n e) 4) else 0), (if tK b n (tP b n e) = 1 then wdI b (tP b n e) (min (tE b n (tP b n e) - tP b n e) 6) else 0))) := by
  unfold f_X12_goes
  refine zl_bind (P := fun i a => a = nI (e + i) ∧ e + i ≤ n ∧ tP b n e = tP b n (e + i)) (Post := fun a => a = nI (tP b n e)) (n - e) (by omega) ⟨rfl, he, rfl⟩ ?_ ?_ ?_
  · rintro i hi _ ⟨rfl, h1, h2⟩
    refine zi_f (nI_ge (by omega) (by omega)) ?_
    have hb := m_byteAt (j := e + i) hn h1 ht
    rw [if_pos (show e + i < n by omega)] at hb
    refine zi_beq hb ?_
    have hgo : isBl (b (e + i)) = true → tP b n e = tP b n (e + (i + 1)) := fun h => h2.trans (scan_t h (by omega))
    refine zi_c (fun q => zwi ⟨by rw [nI_1]; rfl, by omega, hgo (by unfold isBl; rw [decide_eq_true q]; rfl)⟩) (fun q => ?_)
    refine zi_beq hb ?_
    refine zi_c (fun q2 => zwi ⟨by rw [nI_1]; rfl, by omega, hgo (by unfold isBl; rw [decide_eq_true q2, Bool.or_true])⟩) (fun q2 => zwi ?_)
    rw [h2]
    show nI (e + i) = nI (scan _ n (e + i))
    rw [scan_f (by show isBl _ = false; unfold isBl; rw [decide_eq_false q, decide_eq_false q2]; rfl)]
  · rintro _ ⟨rfl, h1, h2⟩
    refine zi_t (nI_le (by omega) (by omega)) (zwi ?_)
    rw [h2]
    show nI (e + (n - e)) = nI (scan _ n (e + (n - e)))
    rw [scan_n (by omega)]
  · rintro _ rfl
    have hp := (tP_le (b := b) he).2
    generalize tP b n e = p at hp
    refine zi_beq (m_byteAt hn hp ht) ?_
    have hte := tE_le (b := b) hp
    refine zi_bind (zwp_mono (Q := fun r => r = (nI (tE b n p), nI (tK b n p), (if tK b n p = 2 then nvI b p (min (tE b n p - p) 4) else 0), (if tK b n p = 1 then wdI b p (min (tE b n p - p) 6) else 0))) ?_ ?_)
    · clear hte
      unfold tE tK
      by_cases h : p < n
      · refine zi_t (nI_lt h (by omega)) ?_
        rw [if_pos h, if_pos h, if_pos h]
        refine zi_beq (m_isLetter _) ?_
        cases h1 : isLt (b p) with
        | true =>
          refine zi_f (by decide) ?_
          rw [if_pos rfl, if_pos rfl, if_neg (show ¬ (1 : Nat) = 2 by decide), if_pos rfl]
          refine zl_bind (P := fun i a => a = (nI (p + i), wdI b p (min i 6)) ∧ p + i ≤ n ∧ scan (fun j => isLt (b j)) n p = scan (fun j => isLt (b j)) n (p + i)) (Post := fun a => a = (nI (scan (fun j => isLt (b j)) n p), wdI b p (min (scan (fun j => isLt (b j)) n p - p) 6))) (n - p) (by omega) ⟨rfl, by omega, rfl⟩ ?_ ?_ ?_
          · rintro i hi _ ⟨rfl, a1, a2⟩
            have hb := m_byteAt (j := p + i) hn a1 ht
            rw [if_pos (show p + i < n by omega)] at hb
            refine zi_beq hb ?_
            refine zi_beq (m_isLetter _) ?_
            cases h2 : isLt (b (p + i)) with
            | true =>
              refine zi_f (by decide) ?_
              have hsub : nI (p + i) - nI p = nI i := by rw [pk_sub (by omega), show p + i - p = i by omega]
              refine zi_bind (zwp_mono (Q := fun v => v = wdI b p (min (i + 1) 6)) ?_ ?_)
              · rw [hsub]
                by_cases q : 6 ≤ i
                · refine zi_t (by rw [show (6 : Int32) = nI 6 from rfl]; exact nI_le q (by omega)) (zwi ?_)
                  rw [Nat.min_eq_right q, Nat.min_eq_right (by omega)]
                · refine zi_f (by rw [show (6 : Int32) = nI 6 from rfl]; exact nI_ge (by omega) (by decide)) ?_
                  refine zi_beq hb (zwi ?_)
                  rw [Nat.min_eq_left (by omega), Nat.min_eq_left (show i + 1 ≤ 6 by omega)]; rfl
              · intro v e2
                subst e2
                exact zwi ⟨by rw [nI_1]; rfl, by omega, a2.trans (scan_t h2 (by omega))⟩
            | false =>
              refine zi_t rfl (zwi ?_)
              rw [a2, scan_f h2, show p + i - p = i by omega]; rfl
          · rintro _ ⟨rfl, a1, a2⟩
            have hb := m_byteAt (j := p + (n - p)) hn a1 ht
            rw [if_neg (show ¬ p + (n - p) < n by omega)] at hb
            refine zi_beq hb ?_
            refine zi_beq (m_isLetter _) ?_
            rw [isLt0]
            refine zi_t rfl (zwi ?_)
            rw [a2, scan_n (by omega), show p + (n - p) - p = n - p by omega]; rfl
          · rintro _ rfl; exact zwi rfl
        | false =>
          refine zi_t rfl ?_
          rw [if_neg (show ¬ false = true by decide), if_neg (show ¬ false = true by decide)]
          refine zi_beq (m_isDigit _) ?_
          cases h2 : isDg (b p) with
          | true =>
            refine zi_f (by decide) ?_
            rw [if_pos rfl, if_pos rfl, if_pos rfl, if_neg (show ¬ (2 : Nat) = 1 by decide)]
            refine zl_bind (P := fun i a => a = (nI (p + i), nvI b p (min i 4)) ∧ p + i ≤ n ∧ scan (fun j => isDg (b j)) n p = scan (fun j => isDg (b j)) n (p + i)) (Post := fun a => a = (nI (scan (fun j => isDg (b j)) n p), nvI b p (min (scan (fun j => isDg (b j)) n p - p) 4))) (n - p) (by omega) ⟨rfl, by omega, rfl⟩ ?_ ?_ ?_
            · rintro i hi _ ⟨rfl, a1, a2⟩
              have hb := m_byteAt (j := p + i) hn a1 ht
              rw [if_pos (show p + i < n by omega)] at hb
              refine zi_beq hb ?_
              refine zi_beq (m_isDigit _) ?_
              cases h2 : isDg (b (p + i)) with
              | true =>
                refine zi_f (by decide) ?_
                have hsub : nI (p + i) - nI p = nI i := by rw [pk_sub (by omega), show p + i - p = i by omega]
                refine zi_bind (zwp_mono (Q := fun v => v = nvI b p (min (i + 1) 4)) ?_ ?_)
                · rw [hsub]
                  by_cases q : 4 ≤ i
                  · refine zi_t (by rw [show (4 : Int32) = nI 4 from rfl]; exact nI_le q (by omega)) (zwi ?_)
                    rw [Nat.min_eq_right q, Nat.min_eq_right (by omega)]
                  · refine zi_f (by rw [show (4 : Int32) = nI 4 from rfl]; exact nI_ge (by omega) (by decide)) ?_
                    refine zi_beq hb (zwi ?_)
                    rw [Nat.min_eq_left (by omega), Nat.min_eq_left (show i + 1 ≤ 4 by omega), nv_m]; rfl
                · intro v e2
                  subst e2
                  exact zwi ⟨by rw [nI_1]; rfl, by omega, a2.trans (scan_t h2 (by omega))⟩
              | false =>
                refine zi_t rfl (zwi ?_)
                rw [a2, scan_f h2, show p + i - p = i by omega]; rfl
            · rintro _ ⟨rfl, a1, a2⟩
              have hb := m_byteAt (j := p + (n - p)) hn a1 ht
              rw [if_neg (show ¬ p + (n - p) < n by omega)] at hb
              refine zi_beq hb ?_
              refine zi_beq (m_isDigit _) ?_
              rw [isDg0]
              refine zi_t rfl (zwi ?_)
              rw [a2, scan_n (by omega), show p + (n - p) - p = n - p by omega]; rfl
            · rintro _ rfl; exact zwi rfl
          | false =>
            refine zi_t rfl ?_
            rw [if_neg (show ¬ false = true by decide), if_neg (show ¬ false = true by decide)]
            have hsg : ∀ c : Int32, (if c = (59 : Int32) then some (3 : Int32) else (if c = (40 : Int32) then some (3 : Int32) else (if c = (41 : Int32) then some (3 : Int32) else (if c = (43 : Int32) then some (3 : Int32) else (if c = (45 : Int32) then some (3 : Int32) else (if c = (42 : Int32) then some (3 : Int32) else (if c = (47 : Int32) then some (3 : Int32) else (if c = (60 : Int32) then some (3 : Int32) else (if c = (61 : Int32) then some (3 : Int32) else some (4 : Int32)))))))))) = some (if isSg c then 3 else 4) := by
              intro c
              have hs : isSg c = (c == 59 || (c == 40 || (c == 41 || (c == 43 || (c == 45 || (c == 42 || (c == 47 || (c == 60 || (c == 61 || false))))))))) := rfl
              rw [hs]
              have step : ∀ (k : Int32) (B : Bool) (X : Option Int32), X = some (if B then (3 : Int32) else 4) → (if c = k then some (3 : Int32) else X) = some (if (c == k || B) then 3 else 4) := by
                intro k B X hX
                by_cases q : c = k
                · rw [if_pos q, beq_iff_eq.mpr q]; rfl
                · rw [if_neg q, beq_false_of_ne q, hX]; rfl
              exact step _ _ _ (step _ _ _ (step _ _ _ (step _ _ _ (step _ _ _ (step _ _ _ (step _ _ _ (step _ _ _ (step _ _ _ rfl))))))))
            refine zi_beq (hsg _) ?_
            cases h3 : isSg (b p) with
            | true => exact zwi (by rw [nI_1]; rfl)
            | false => exact zwi (by rw [nI_1]; rfl)
      · refine zi_f (nI_nlt (by omega) (by omega)) ?_
        rw [if_neg h, if_neg h]
        exact zwi rfl
    · rintro _ rfl
      dsimp only
      exact zwi (by rw [pk_sub hte.1])
