/-! SEATS: the least by figures and taken seats -/
def sSit (D : Nat → Nat → Option Nat) (f t s : Nat) : Bool := !t.testBit s && (D f s).isSome
def sVal (D : Nat → Nat → Option Nat) (L : Nat → Nat) (f t s : Nat) : Nat := (D f s).getD 0 + L (t ||| 2 ^ s)
def mnS (D : Nat → Nat → Option Nat) (L : Nat → Nat) (f t : Nat) : Nat → Nat
  | 0 => 1000 + L t
  | s + 1 => if sSit D f t s then min (mnS D L f t s) (sVal D L f t s) else mnS D L f t s
theorem mnS_t {D : Nat → Nat → Option Nat} {L : Nat → Nat} {f t s : Nat} (h : sSit D f t s = true) : mnS D L f t (s + 1) = min (mnS D L f t s) (sVal D L f t s) := if_pos h
theorem mnS_f {D : Nat → Nat → Option Nat} {L : Nat → Nat} {f t s : Nat} (h : sSit D f t s = false) : mnS D L f t (s + 1) = mnS D L f t s := if_neg (by rw [h]; decide)
theorem mnS_le {D : Nat → Nat → Option Nat} {L : Nat → Nat} {f t : Nat} : ∀ s, mnS D L f t s ≤ 1000 + L t
  | 0 => Nat.le_refl _
  | s + 1 => by
    have ih := mnS_le (D := D) (L := L) (f := f) (t := t) s
    cases h : sSit D f t s with
    | true => rw [mnS_t h]; omega
    | false => rw [mnS_f h]; exact ih
theorem mnS_at {D : Nat → Nat → Option Nat} {L : Nat → Nat} {f t : Nat} : ∀ s, mnS D L f t s = 1000 + L t ∨ ∃ j, j < s ∧ sSit D f t j = true ∧ mnS D L f t s = sVal D L f t j
  | 0 => .inl rfl
  | s + 1 => by
    have ih := mnS_at (D := D) (L := L) (f := f) (t := t) s
    cases h : sSit D f t s with
    | true =>
      rw [mnS_t h]
      by_cases q : mnS D L f t s ≤ sVal D L f t s
      · rw [Nat.min_eq_left q]
        rcases ih with e | ⟨j, h1, h2, h3⟩
        · exact .inl e
        · exact .inr ⟨j, by omega, h2, h3⟩
      · rw [Nat.min_eq_right (by omega)]
        exact .inr ⟨s, by omega, h, rfl⟩
    | false =>
      rw [mnS_f h]
      rcases ih with e | ⟨j, h1, h2, h3⟩
      · exact .inl e
      · exact .inr ⟨j, by omega, h2, h3⟩
/-- the least that the last n of F figures cost -/
def lst (D : Nat → Nat → Option Nat) (F S : Nat) : Nat → Nat → Nat
  | 0 => fun _ => 0
  | n + 1 => fun t => mnS D (lst D F S n) (F - (n + 1)) t S
theorem lst_le {D : Nat → Nat → Option Nat} {F S : Nat} : ∀ n t, lst D F S n t ≤ 1000 * n
  | 0, _ => Nat.le_refl _
  | n + 1, t => by
    have h1 := mnS_le (D := D) (L := lst D F S n) (f := F - (n + 1)) (t := t) S
    have h2 := lst_le (D := D) (F := F) (S := S) n t
    show mnS D (lst D F S n) (F - (n + 1)) t S ≤ 1000 * (n + 1)
    omega
theorem lst_s {D : Nat → Nat → Option Nat} {F S f : Nat} (hf : f < F) (t : Nat) : lst D F S (F - f) t = mnS D (lst D F S (F - (f + 1))) f t S := by
  have h1 : F - f = (F - (f + 1)) + 1 := by omega
  rw [h1]
  show mnS D (lst D F S (F - (f + 1))) (F - (F - (f + 1) + 1)) t S = _
  rw [show F - (F - (f + 1) + 1) = f by omega]
def pkB (D : Nat → Nat → Option Nat) (F S f t s : Nat) : Bool := sSit D f t s && (sVal D (lst D F S (F - (f + 1))) f t s == lst D F S (F - f) t)
def sPk (D : Nat → Nat → Option Nat) (F S f t : Nat) : Int32 := fstI (pkB D F S f t) 0 S
theorem fstI_cs {p : Nat → Bool} : ∀ d lo, (fstI p lo d = -1 ∧ ∀ j, lo ≤ j → j < lo + d → p j = false) ∨ ∃ j, lo ≤ j ∧ j < lo + d ∧ p j = true ∧ fstI p lo d = nI j
  | 0, lo => .inl ⟨rfl, fun j h1 h2 => by omega⟩
  | d + 1, lo => by
    cases h : p lo with
    | true => exact .inr ⟨lo, Nat.le_refl _, by omega, h, fstI_t h⟩
    | false =>
      rw [fstI_f (by rw [h]; decide)]
      rcases fstI_cs (p := p) d (lo + 1) with ⟨e, h2⟩ | ⟨j, h1, h2, h3, h4⟩
      · refine .inl ⟨e, fun j h1 h3 => ?_⟩
        by_cases q : j = lo
        · rw [q]; exact h
        · exact h2 j (by omega) (by omega)
      · exact .inr ⟨j, by omega, by omega, h3, h4⟩
/-- taken seats, ways and placed figures, ahead of figure f -/
def sCh (D : Nat → Nat → Option Nat) (F S : Nat) : Nat → Nat × Nat × Nat
  | 0 => (0, 0, 0)
  | f + 1 => if sPk D F S f (sCh D F S f).1 = -1 then sCh D F S f else ((sCh D F S f).1 ||| 2 ^ (sPk D F S f (sCh D F S f).1).toNatClampNeg, (sCh D F S f).2.1 + (D f (sPk D F S f (sCh D F S f).1).toNatClampNeg).getD 0, (sCh D F S f).2.2 + 1)
theorem sCh_n {D : Nat → Nat → Option Nat} {F S f : Nat} (h : sPk D F S f (sCh D F S f).1 = -1) : sCh D F S (f + 1) = sCh D F S f := if_pos h
theorem sCh_y {D : Nat → Nat → Option Nat} {F S f j : Nat} (hj : j < 64) (h : sPk D F S f (sCh D F S f).1 = nI j) : sCh D F S (f + 1) = ((sCh D F S f).1 ||| 2 ^ j, (sCh D F S f).2.1 + (D f j).getD 0, (sCh D F S f).2.2 + 1) := by
  show (if sPk D F S f (sCh D F S f).1 = -1 then sCh D F S f else ((sCh D F S f).1 ||| 2 ^ (sPk D F S f (sCh D F S f).1).toNatClampNeg, (sCh D F S f).2.1 + (D f (sPk D F S f (sCh D F S f).1).toNatClampNeg).getD 0, (sCh D F S f).2.2 + 1)) = _
  rw [h, if_neg (nI_nm1 hj), nI_clamp (by omega)]
theorem sCh_inv {D : Nat → Nat → Option Nat} {F S : Nat} (hS : S ≤ 8) (hD : ∀ f s v, D f s = some v → v ≤ 36) : ∀ f, f ≤ F → lst D F S F 0 = 1000 * (f - (sCh D F S f).2.2) + (sCh D F S f).2.1 + lst D F S (F - f) (sCh D F S f).1 ∧ (sCh D F S f).2.2 ≤ f ∧ (sCh D F S f).2.1 ≤ 36 * f ∧ (sCh D F S f).1 < 2 ^ S
  | 0, _ => ⟨by show _ = 1000 * 0 + 0 + lst D F S F 0; omega, Nat.le_refl _, Nat.le_refl _, Nat.two_pow_pos S⟩
  | f + 1, hf => by
    obtain ⟨h1, h2, h3, h4⟩ := sCh_inv (D := D) (F := F) hS hD f (by omega)
    rw [lst_s (by omega)] at h1
    rcases fstI_cs (p := pkB D F S f (sCh D F S f).1) S 0 with ⟨e, hn⟩ | ⟨j, _, hj, hp, e⟩
    · rw [sCh_n e]
      refine ⟨?_, by omega, by omega, h4⟩
      rcases mnS_at (D := D) (L := lst D F S (F - (f + 1))) (f := f) (t := (sCh D F S f).1) S with q | ⟨j, q1, q2, q3⟩
      · rw [q] at h1; omega
      · have := hn j (by omega) (by omega)
        unfold pkB at this
        rw [q2, lst_s (by omega), q3, beq_self_eq_true] at this
        cases this
    · rw [sCh_y (by omega) e]
      unfold pkB at hp
      rw [Bool.and_eq_true, beq_iff_eq] at hp
      obtain ⟨hs, hv⟩ := hp
      have hs' : (D f j).isSome = true := by
        unfold sSit at hs
        rw [Bool.and_eq_true] at hs
        exact hs.2
      obtain ⟨v, hv2⟩ := Option.isSome_iff_exists.mp hs'
      have hv3 := hD f j v hv2
      rw [lst_s (by omega)] at hv
      rw [← hv] at h1
      unfold sVal at h1
      rw [hv2] at h1 ⊢
      dsimp only [Option.getD] at h1 ⊢
      exact ⟨by omega, by omega, by omega, Nat.or_lt_two_pow h4 (Nat.pow_lt_pow_right (by decide) (by omega))⟩
theorem bit_sh : ∀ t, t < 256 → ∀ s, s < 8 → ((nI t >>> (nI s &&& 31)) &&& 1) = b2 (t.testBit s) := by decide +kernel
theorem bit_or {t s : Nat} (hs : s < 8) : nI t ||| ((1 : Int32) <<< (nI s &&& 31)) = nI (t ||| 2 ^ s) := by rw [one_shl s (by omega), fa_or]
theorem two8 {S : Nat} (hS : S ≤ 8) : 2 ^ S ≤ 256 := (Nat.pow_le_pow_right (by decide) hS : 2 ^ S ≤ 2 ^ 8)
theorem nI_nm2 {n : Nat} (h : n < 2 ^ 31) : ¬ nI n = -1 := fun e => by
  have := congrArg Int32.toInt e
  rw [nI_toInt h] at this
  have h2 : ((-1 : Int32)).toInt = -1 := by decide
  omega
theorem c_fillN {v : Int32} {fr : Nat → Int32} {n : Nat} (hn : n < 2 ^ 31) : zwp (f_J7_fill_53178 v n fr) (fun r => ∀ j, j < n → r j = v) := by
  unfold f_J7_fill_53178
  refine zl_bind (P := fun k a => ∃ r, a = (nI k, r) ∧ ∀ j, j < k → r j = v) (Post := fun r => ∀ j, j < n → r j = v) n (by omega) ⟨fr, rfl, fun j hj => by omega⟩ ?_ ?_ ?_
  · rintro k hk _ ⟨r, rfl, h⟩
    refine zi_f (by rw [show Int32.ofNat n = nI n from rfl]; exact nI_ge hk (by omega)) ?_
    rw [zbnd_nI (by omega) (by omega), nI_clamp (by omega), nI_1]
    refine zwi ⟨_, rfl, fun j hj => ?_⟩
    by_cases q : j = k
    · subst q; rw [pk_us]
    · rw [pk_un q]; exact h j (by omega)
  · rintro _ ⟨r, rfl, h⟩
    exact zi_t (by rw [show Int32.ofNat n = nI n from rfl]; exact nI_le (Nat.le_refl _) (by omega)) (zwi h)
  · intro r h; exact zwi h
