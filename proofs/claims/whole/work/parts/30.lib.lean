/-! TOOLS: how a function that may fail is read -/
theorem zi_bind {α β : Type} {o : Option α} {k : α → Option β} {Q : β → Prop} (h : zwp o (fun a => zwp (k a) Q)) : zwp (Option.bind o k) Q := by
  cases o with
  | none => exact (zwn h).elim
  | some a =>
    rw [zwp_some] at h
    exact h
theorem zi_eq {α : Type} {o : Option α} {a : α} {Q : α → Prop} (h : o = some a) (hq : Q a) : zwp o Q := by rw [h]; exact zwi hq
theorem zw_ex {α : Type} {o : Option α} {Q : α → Prop} (h : zwp o Q) : ∃ a, o = some a ∧ Q a := by
  cases o with
  | none => exact (zwn h).elim
  | some a => exact ⟨a, rfl, zws h⟩
theorem zi_beq {α β : Type} {o : Option α} {a : α} {k : α → Option β} {Q : β → Prop} (h : o = some a) (hq : zwp (k a) Q) : zwp (Option.bind o k) Q := by rw [h]; exact hq
theorem zi_t {α : Type} {c : Prop} {dc : Decidable c} {a b : Option α} {Q : α → Prop} (hc : c) (h : zwp a Q) : zwp (@ite _ c dc a b) Q := by rw [if_pos hc]; exact h
theorem zi_f {α : Type} {c : Prop} {dc : Decidable c} {a b : Option α} {Q : α → Prop} (hc : ¬ c) (h : zwp b Q) : zwp (@ite _ c dc a b) Q := by rw [if_neg hc]; exact h
theorem zi_c {α : Type} {c : Prop} {dc : Decidable c} {a b : Option α} {Q : α → Prop} (h1 : c → zwp a Q) (h2 : ¬ c → zwp b Q) : zwp (@ite _ c dc a b) Q := by
  by_cases hc : c
  · exact zi_t hc (h1 hc)
  · exact zi_f hc (h2 hc)
theorem zi_bs {α ρ : Type} {o : Option (α ⊕ ρ)} {k : α → Option ρ} {Q : ρ → Prop} (h : zwp o (fun r => Sum.elim (fun a => zwp (k a) Q) Q r)) : zwp (zbs o k) Q := by
  cases o with
  | none => exact (zwn h).elim
  | some r =>
    rw [zwp_some] at h
    cases r with
    | inl a => exact h
    | inr b => exact zwi h
theorem zbnd_ok {α : Type} {i : Int32} {n : Nat} {o : Option α} (h : ¬ (i < 0 ∨ n ≤ i.toNatClampNeg)) : zbnd i n o = o := if_neg h
theorem zbnd_nI {α : Type} {k n : Nat} {o : Option α} (h : k < n) (hn : n < 2 ^ 31) : zbnd (nI k) n o = o := zbnd_ok (nI_in h hn)
theorem zi_bnd {α : Type} {k n : Nat} {i : Int32} {o : Option α} {Q : α → Prop} (hi : i = nI k) (h : k < n) (hn : n < 2 ^ 31) (q : zwp o Q) : zwp (zbnd i n o) Q := by rw [hi, zbnd_nI h hn]; exact q
theorem znz_ok {α : Type} {y : Int32} {o : Option α} (h : ¬ y = 0) : znz y o = o := if_neg h
theorem znz_nI {α : Type} {k : Nat} {o : Option α} (h : 0 < k) (hk : k < 2 ^ 31) : znz (nI k) o = o := znz_ok (nI_ne0 h hk)
theorem zbol_0 {α : Type} {o : Option α} : zbol 0 o = o := if_pos rfl
theorem zbol_1 {α : Type} {o : Option α} : zbol 1 o = o := if_pos rfl
theorem zbol_ok {α : Type} {v : Int32} {o : Option α} (h : v = 0 ∨ v = 1) : zbol v o = o := by
  rcases h with h | h
  · rw [h]; exact zbol_0
  · rw [h]; exact zbol_1
theorem zcpg_ok {α : Type} {sp dp n n0 n1 : Nat} {o : Option α} (h1 : sp + n ≤ n0) (h2 : dp + n ≤ n1) (h3 : n0 < 2 ^ 31) (h4 : n1 < 2 ^ 31) : zcpg (nI sp) (nI dp) (nI n) n0 n1 o = o := by
  unfold zcpg
  have a1 : sp < 2 ^ 31 := by omega
  have a2 : dp < 2 ^ 31 := by omega
  have a3 : n < 2 ^ 31 := by omega
  rw [if_pos]
  rw [nI_clamp a1, nI_clamp a2, nI_clamp a3]
  exact ⟨nI_pos a1, nI_pos a2, nI_pos a3, h1, h2⟩
theorem zitr_go {α β : Type} {f : α → Option (α ⊕ β)} : ∀ (n N : Nat) (s : Nat → α) (b : β), n < N → (∀ k, k < n → f (s k) = some (.inl (s (k + 1)))) → f (s n) = some (.inr b) → zitr f N (s 0) = some b
  | 0, N + 1, s, b, _, _, he => by
    show (match f (s 0) with | some (.inl a') => zitr f N a' | some (.inr b) => some b | none => none) = some b
    rw [he]
  | n + 1, N + 1, s, b, hN, hs, he => by
    show (match f (s 0) with | some (.inl a') => zitr f N a' | some (.inr b) => some b | none => none) = some b
    rw [hs 0 (Nat.succ_pos n)]
    exact zitr_go n N (fun k => s (k + 1)) b (Nat.lt_of_succ_lt_succ hN) (fun k hk => hs (k + 1) (Nat.succ_lt_succ hk)) he
/-- a loop whose states are told -/
theorem zitr_run {α β : Type} {f : α → Option (α ⊕ β)} {a : α} {b : β} (s : Nat → α) (n : Nat) (hn : n < 2147483648) (h0 : s 0 = a) (hs : ∀ k, k < n → f (s k) = some (.inl (s (k + 1)))) (he : f (s n) = some (.inr b)) : zitr f zFU a = some b := by
  rw [← h0]
  exact zitr_go n zFU s b (by rw [zFU_eq]; exact hn) hs he
theorem zitr_st {α β : Type} {f : α → Option (α ⊕ β)} {P : α → Prop} {Post : β → Prop} {a : α} {N : Nat} (h : zwp (f a) (fun r => Sum.elim P Post r)) (hN : ∀ x, P x → zwp (zitr f N x) Post) : zwp (match f a with | some (.inl a') => zitr f N a' | some (.inr b) => some b | none => none) Post := by
  revert h
  cases f a with
  | none => exact fun h => (zwn h).elim
  | some r =>
    intro h
    rw [zwp_some] at h
    cases r with
    | inl x => exact hN x h
    | inr b => exact zwi h
theorem zitr_iv {α β : Type} {f : α → Option (α ⊕ β)} {Post : β → Prop} : ∀ (n N : Nat) (P : Nat → α → Prop) (a : α), n < N → P 0 a → (∀ k, k < n → ∀ a, P k a → zwp (f a) (fun r => Sum.elim (P (k + 1)) Post r)) → (∀ a, P n a → zwp (f a) (fun r => Sum.elim (fun _ => False) Post r)) → zwp (zitr f N a) Post
  | 0, N + 1, P, a, _, h0, _, he => zitr_st (he a h0) (fun _ h => h.elim)
  | n + 1, N + 1, P, a, hN, h0, hs, he => zitr_st (hs 0 (Nat.succ_pos n) a h0) (fun x h => zitr_iv n N (fun k => P (k + 1)) x (Nat.lt_of_succ_lt_succ hN) h (fun k hk => hs (k + 1) (Nat.succ_lt_succ hk)) he)
/-- a loop of at most n rounds, with what holds ahead of each -/
theorem zl_inv {α β : Type} {f : α → Option (α ⊕ β)} {a : α} (P : Nat → α → Prop) {Post : β → Prop} (n : Nat) (hn : n < 2147483648) (h0 : P 0 a) (hs : ∀ k, k < n → ∀ a, P k a → zwp (f a) (fun r => Sum.elim (P (k + 1)) Post r)) (he : ∀ a, P n a → zwp (f a) (fun r => Sum.elim (fun _ => False) Post r)) : zwp (zitr f zFU a) Post :=
  zitr_iv n zFU P a (by rw [zFU_eq]; exact hn) h0 hs he
/-- a loop that goes down a measure -/
theorem zl_mu {α β : Type} {f : α → Option (α ⊕ β)} {a : α} (P : α → Prop) (μ : α → Nat) {Post : β → Prop} (hn : μ a < 2147483648) (h0 : P a) (hs : ∀ a, P a → zwp (f a) (fun r => Sum.elim (fun a' => P a' ∧ μ a' < μ a) Post r)) : zwp (zitr f zFU a) Post := by
  have key : ∀ n (a : α), μ a < n → P a → zwp (zitr f n a) Post := by
    intro n
    induction n with
    | zero => intro a h; exact absurd h (Nat.not_lt_zero _)
    | succ n ih =>
      intro a hm hp
      exact zitr_st (hs a hp) (fun x h => ih x (by have := h.2; omega) h.1)
  exact key zFU a (by rw [zFU_eq]; exact hn) h0
/-- a loop, and what comes behind it -/
theorem zl_bind {α β γ : Type} {f : α → Option (α ⊕ β)} {a : α} {k : β → Option γ} {Q : γ → Prop} (P : Nat → α → Prop) (Post : β → Prop) (n : Nat) (hn : n < 2147483648) (h0 : P 0 a) (hs : ∀ k, k < n → ∀ a, P k a → zwp (f a) (fun r => Sum.elim (P (k + 1)) Post r)) (he : ∀ a, P n a → zwp (f a) (fun r => Sum.elim (fun _ => False) Post r)) (hk : ∀ b, Post b → zwp (k b) Q) : zwp (Option.bind (zitr f zFU a) k) Q :=
  zi_bind (zwp_mono (zl_inv P n hn h0 hs he) hk)
theorem zl_bs {α β ρ : Type} {f : α → Option (α ⊕ (β ⊕ ρ))} {a : α} {k : β → Option ρ} {Q : ρ → Prop} (P : Nat → α → Prop) (Post : β → Prop) (n : Nat) (hn : n < 2147483648) (h0 : P 0 a) (hs : ∀ k, k < n → ∀ a, P k a → zwp (f a) (fun r => Sum.elim (P (k + 1)) (fun r => Sum.elim Post Q r) r)) (he : ∀ a, P n a → zwp (f a) (fun r => Sum.elim (fun _ => False) (fun r => Sum.elim Post Q r) r)) (hk : ∀ b, Post b → zwp (k b) Q) : zwp (zbs (zitr f zFU a) k) Q := by
  refine zi_bs (zwp_mono (zl_inv P n hn h0 hs he) ?_)
  rintro (b | r) h
  · exact hk b h
  · exact h
/-- a loop whose states are told, with its last word -/
theorem zl_run {α β γ : Type} {f : α → Option (α ⊕ β)} {a : α} {b : β} {k : β → Option γ} (s : Nat → α) (n : Nat) (hn : n < 2147483648) (h0 : s 0 = a) (hs : ∀ k, k < n → f (s k) = some (.inl (s (k + 1)))) (he : f (s n) = some (.inr b)) : Option.bind (zitr f zFU a) k = k b := by
  rw [zitr_run s n hn h0 hs he]; rfl
theorem nI_m1 (n : Nat) (h : 0 < n) : nI n - 1 = nI (n - 1) := by
  obtain ⟨m, rfl⟩ : ∃ m, n = m + 1 := ⟨n - 1, by omega⟩
  exact nI_pred m
/-- a truth value told as a number -/
def b2 (c : Bool) : Int32 := if c then 1 else 0
theorem b2_0 {c : Bool} : b2 c = 0 ↔ c = false := by cases c <;> decide
theorem b2_bol {α : Type} {c : Bool} {o : Option α} : zbol (b2 c) o = o := by cases c <;> rfl
theorem b2_t : b2 true = 1 := rfl
theorem b2_f : b2 false = 0 := rfl
theorem b2_ite {c : Prop} [Decidable c] : (if c then some (1 : Int32) else some 0) = some (b2 (decide c)) := by
  by_cases h : c
  · simp [h, b2]
  · simp [h, b2]
theorem b2_iten {c : Prop} [Decidable c] : (if c then some (0 : Int32) else some 1) = some (b2 (!decide c)) := by
  by_cases h : c
  · simp [h, b2]
  · simp [h, b2]
/-- bits told by a row -/
def bts (p : Nat → Bool) : Nat → Nat
  | 0 => 0
  | n + 1 => bts p n + (if p n then 2 ^ n else 0)
theorem bts_lt (p : Nat → Bool) : ∀ n, bts p n < 2 ^ n
  | 0 => by simp [bts]
  | n + 1 => by
    have h := bts_lt p n
    have : (2 : Nat) ^ (n + 1) = 2 ^ n + 2 ^ n := by rw [Nat.pow_succ]; omega
    unfold bts
    by_cases hp : p n = true
    · simp only [hp, if_true]; omega
    · simp only [hp]; simp; omega
theorem bts_cong {p q : Nat → Bool} : ∀ {n : Nat}, (∀ k, k < n → p k = q k) → bts p n = bts q n
  | 0, _ => rfl
  | n + 1, h => by
    unfold bts
    rw [bts_cong (fun k hk => h k (by omega)), h n (by omega)]
theorem bts_or (p : Nat → Bool) (n : Nat) : bts p n ||| 2 ^ n = bts p n + 2 ^ n := by
  have h := Nat.two_pow_add_eq_or_of_lt (bts_lt p n) 1
  rw [Nat.mul_one] at h
  rw [Nat.or_comm, ← h, Nat.add_comm]
theorem bts_bit (p : Nat → Bool) : ∀ n k, (bts p n).testBit k = (decide (k < n) && p k)
  | 0, k => by simp [bts]
  | n + 1, k => by
    have ih := bts_bit p n k
    unfold bts
    by_cases hp : p n = true
    · rw [if_pos hp, ← bts_or, Nat.testBit_or, ih, Nat.testBit_two_pow]
      by_cases hk : k < n
      · have : ¬ n = k := by omega
        have h2 : k < n + 1 := by omega
        simp [hk, this, h2]
      · by_cases he : n = k
        · subst he; simp [hp]
        · have h2 : ¬ k < n + 1 := by omega
          simp [hk, he, h2]
    · rw [if_neg hp, Nat.add_zero, ih]
      by_cases hk : k < n
      · have h2 : k < n + 1 := by omega
        simp [hk, h2]
      · by_cases he : k = n
        · subst he; simp [hp]
        · have h2 : ¬ k < n + 1 := by omega
          simp [hk, h2]
theorem one_shl : ∀ k, k < 32 → ((1 : Int32) <<< (nI k &&& 31)) = nI (2 ^ k) := by decide +kernel
theorem bts_step {p : Nat → Bool} {k : Nat} (hk : k < 31) (hp : p k = true) : nI (bts p k) ||| ((1 : Int32) <<< (nI k &&& 31)) = nI (bts p (k + 1)) := by
  rw [one_shl k (by omega), fa_or, bts_or]
  show _ = nI (bts p k + (if p k then 2 ^ k else 0))
  rw [if_pos hp]
theorem bts_stay {p : Nat → Bool} {k : Nat} (hp : p k = false) : bts p (k + 1) = bts p k := by
  show bts p k + _ = _
  rw [hp]; rfl
