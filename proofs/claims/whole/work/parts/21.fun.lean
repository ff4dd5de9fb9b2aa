/-! FUNCTIONS THAT MAY FAIL: what a method does to the cells that it touches, as a function; how it is carried over to the pure machine -/
def zwp {α : Type} (o : Option α) (Q : α → Prop) : Prop := match o with
  | some a => Q a
  | none => False
theorem zwp_bind {α β : Type} {o : Option α} {k : α → Option β} {Q : β → Prop} (h : zwp (Option.bind o k) Q) : zwp o (fun a => zwp (k a) Q) := by
  cases o with
  | none => exact h
  | some a => exact h
theorem zwp_mono {α : Type} {o : Option α} {Q Q' : α → Prop} (h : zwp o Q) (k : ∀ a, Q a → Q' a) : zwp o Q' := by
  cases o with
  | none => exact h
  | some a => exact k a h
theorem zwp_t {α : Type} {c : Prop} {dc : Decidable c} {a b : Option α} {Q : α → Prop} (h : zwp (@ite _ c dc a b) Q) (hc : c) : zwp a Q := by
  rw [if_pos hc] at h; exact h
theorem zwp_f {α : Type} {c : Prop} {dc : Decidable c} {a b : Option α} {Q : α → Prop} (h : zwp (@ite _ c dc a b) Q) (hc : ¬ c) : zwp b Q := by
  rw [if_neg hc] at h; exact h
/-- an index within its row -/
def zbnd {α : Type} (i : Int32) (n : Nat) (o : Option α) : Option α := if i < 0 ∨ n ≤ i.toNatClampNeg then none else o
theorem zwp_bnd {α : Type} {i : Int32} {n : Nat} {o : Option α} {Q : α → Prop} (h : zwp (zbnd i n o) Q) : ¬ (i < 0 ∨ n ≤ i.toNatClampNeg) ∧ zwp o Q := by
  unfold zbnd at h
  by_cases hc : i < 0 ∨ n ≤ i.toNatClampNeg
  · rw [if_pos hc] at h; exact h.elim
  · rw [if_neg hc] at h; exact ⟨hc, h⟩
/-- a divisor -/
def znz {α : Type} (y : Int32) (o : Option α) : Option α := if y = 0 then none else o
theorem zwp_nz {α : Type} {y : Int32} {o : Option α} {Q : α → Prop} (h : zwp (znz y o) Q) : ¬ y = 0 ∧ zwp o Q := by
  unfold znz at h
  by_cases hc : y = 0
  · rw [if_pos hc] at h; exact h.elim
  · rw [if_neg hc] at h; exact ⟨hc, h⟩
/-- a truth value -/
def zbol {α : Type} (v : Int32) (o : Option α) : Option α := if (v == 0 || v == 1) = true then o else none
theorem zwp_bol {α : Type} {v : Int32} {o : Option α} {Q : α → Prop} (h : zwp (zbol v o) Q) : (v == 0 || v == 1) = true ∧ zwp o Q := by
  unfold zbol at h
  by_cases hc : (v == 0 || v == 1) = true
  · rw [if_pos hc] at h; exact ⟨hc, h⟩
  · rw [if_neg hc] at h; exact h.elim
/-- the places of a copy -/
def zcpg {α : Type} (sp dp n : Int32) (n0 n1 : Nat) (o : Option α) : Option α := if ¬ sp < 0 ∧ ¬ dp < 0 ∧ ¬ n < 0 ∧ sp.toNatClampNeg + n.toNatClampNeg ≤ n0 ∧ dp.toNatClampNeg + n.toNatClampNeg ≤ n1 then o else none
theorem zwp_cpg {α : Type} {sp dp n : Int32} {n0 n1 : Nat} {o : Option α} {Q : α → Prop} (h : zwp (zcpg sp dp n n0 n1 o) Q) : (¬ sp < 0 ∧ ¬ dp < 0 ∧ ¬ n < 0 ∧ sp.toNatClampNeg + n.toNatClampNeg ≤ n0 ∧ dp.toNatClampNeg + n.toNatClampNeg ≤ n1) ∧ zwp o Q := by
  unfold zcpg at h
  by_cases hc : ¬ sp < 0 ∧ ¬ dp < 0 ∧ ¬ n < 0 ∧ sp.toNatClampNeg + n.toNatClampNeg ≤ n0 ∧ dp.toNatClampNeg + n.toNatClampNeg ≤ n1
  · rw [if_pos hc] at h; exact ⟨hc, h⟩
  · rw [if_neg hc] at h; exact h.elim
/-- a loop: goes on with a new state, or ends with an answer -/
def zitr {α β : Type} (f : α → Option (α ⊕ β)) : Nat → α → Option β
  | 0, _ => none
  | n + 1, a => match f a with
    | some (.inl a') => zitr f n a'
    | some (.inr b) => some b
    | none => none
theorem zitr_ev {α β : Type} {f : α → Option (α ⊕ β)} {G : α → Prop} {K : β → Prop} (step : ∀ a, zwp (f a) (fun r => Sum.elim G K r) → G a) : ∀ (n : Nat) (a : α), zwp (zitr f n a) K → G a
  | 0, _, h => h.elim
  | n + 1, a, h => step a (by
      unfold zitr at h
      revert h
      cases f a with
      | none => exact id
      | some r => cases r with
        | inl a' => exact fun h => zitr_ev step n a' h
        | inr b => exact id)
theorem zfu_ex : ∃ n : Nat, n = 2147483648 := ⟨_, rfl⟩
/-- more rounds than any loop takes -/
noncomputable def zFU : Nat := Classical.choose zfu_ex
theorem zFU_eq : zFU = 2147483648 := Classical.choose_spec zfu_ex
/-- numbers by cell and place, with other ones laid over them -/
def zov {α : Type} (I : Nat → Nat → α) : List (Nat × Option Nat × (Nat → α)) → Nat → Nat → α
  | [], b => I b
  | (c, none, g) :: r, b => cond (Nat.beq b c) g (zov I r b)
  | (c, some f, g) :: r, b => fun k => cond (Nat.beq b c && Nat.beq k f) (g 0) (zov I r b k)
def zst {α : Type} : List (Nat × Option Nat × (Nat → α)) → Nat → (Nat → α) → List (Nat × Option Nat × (Nat → α))
  | [], _, _ => []
  | (c, none, g) :: r, a, g' => cond (Nat.beq a c) ((c, none, g') :: r) ((c, none, g) :: zst r a g')
  | (c, some f, g) :: r, a, g' => (c, some f, g) :: zst r a g'
def zha {α : Type} : List (Nat × Option Nat × (Nat → α)) → Nat → Bool
  | [], _ => false
  | (c, none, _) :: r, a => cond (Nat.beq a c) true (zha r a)
  | (c, some _, _) :: r, a => cond (Nat.beq a c) false (zha r a)
def zss {α : Type} : List (Nat × Option Nat × (Nat → α)) → Nat → Nat → α → List (Nat × Option Nat × (Nat → α))
  | [], _, _, _ => []
  | (c, none, g) :: r, a, k, v => (c, none, g) :: zss r a k v
  | (c, some f, g) :: r, a, k, v => cond (Nat.beq a c && Nat.beq k f) ((c, some f, fun _ => v) :: r) ((c, some f, g) :: zss r a k v)
def zhs {α : Type} : List (Nat × Option Nat × (Nat → α)) → Nat → Nat → Bool
  | [], _, _ => false
  | (c, none, _) :: r, a, k => cond (Nat.beq a c) false (zhs r a k)
  | (c, some f, _) :: r, a, k => cond (Nat.beq a c && Nat.beq k f) true (zhs r a k)
def zmr {α : Type} (L : List (Nat × Option Nat × (Nat → α))) : List (Nat × Option Nat × (Nat → α)) → List (Nat × Option Nat × (Nat → α))
  | [] => L
  | (c, none, g) :: r => zst (zmr L r) c g
  | (c, some f, g) :: r => zss (zmr L r) c f (g 0)
def zhm {α : Type} (L : List (Nat × Option Nat × (Nat → α))) : List (Nat × Option Nat × (Nat → α)) → Bool
  | [] => true
  | (c, none, _) :: r => zha (zmr L r) c && zhm L r
  | (c, some f, _) :: r => zhs (zmr L r) c f && zhm L r
theorem zbq {a b : Nat} : Nat.beq a b = decide (a = b) := by
  cases h : Nat.beq a b with
  | true => rw [decide_eq_true (Nat.eq_of_beq_eq_true h)]
  | false => rw [decide_eq_false (Nat.ne_of_beq_eq_false h)]
theorem zst_ok {α : Type} {I : Nat → Nat → α} {a : Nat} {g' : Nat → α} : ∀ {L : List (Nat × Option Nat × (Nat → α))}, zha L a = true → (fun b => if b = a then g' else zov I L b) = zov I (zst L a g')
  | [], h => by cases h
  | (c, none, g) :: r, h => by
    by_cases hc : a = c
    · subst hc
      funext b
      simp only [zst, zbq, decide_true, cond_true, zov]
      by_cases hb : b = a
      · simp [hb]
      · simp [hb]
    · simp only [zha, zbq, hc, decide_false, cond_false] at h
      have ih := zst_ok (I := I) (g' := g') h
      funext b
      simp only [zst, zbq, hc, decide_false, cond_false, zov]
      rw [← ih]
      by_cases hb : b = c
      · subst hb; simp [Ne.symm hc]
      · simp [hb]
  | (c, some f, g) :: r, h => by
    by_cases hc : a = c
    · simp only [zha, zbq, hc, decide_true, cond_true] at h
      cases h
    · simp only [zha, zbq, hc, decide_false, cond_false] at h
      have ih := zst_ok (I := I) (g' := g') h
      funext b k
      simp only [zst, zov]
      rw [← ih]
      by_cases hb : b = c
      · subst hb; simp [Ne.symm hc]
      · simp [zbq, hb]
theorem zss_ok {α : Type} {I : Nat → Nat → α} {a k : Nat} {v : α} : ∀ {L : List (Nat × Option Nat × (Nat → α))}, zhs L a k = true → (fun b => if b = a then (fun j => if j = k then v else zov I L a j) else zov I L b) = zov I (zss L a k v)
  | [], h => by cases h
  | (c, none, g) :: r, h => by
    by_cases hc : a = c
    · simp only [zhs, zbq, hc, decide_true, cond_true] at h
      cases h
    · simp only [zhs, zbq, hc, decide_false, cond_false] at h
      have ih := zss_ok (I := I) (v := v) h
      funext b j
      have ihb := congrFun (congrFun ih b) j
      simp only [zss, zov, zbq]
      by_cases hb : b = c
      · subst hb; simp [Ne.symm hc]
      · simp only [hb, decide_false, cond_false]
        rw [← ihb]
        by_cases hba : b = a
        · subst hba; simp [hb]
        · simp [hba]
  | (c, some f, g) :: r, h => by
    by_cases hc : a = c ∧ k = f
    · obtain ⟨rfl, rfl⟩ := hc
      funext b j
      simp only [zss, zbq, decide_true, Bool.and_self, cond_true, zov]
      by_cases hb : b = a
      · subst hb
        by_cases hj : j = k
        · simp [hj]
        · simp [hj]
      · simp [hb]
    · have hf : (Nat.beq a c && Nat.beq k f) = false := by
        rw [zbq, zbq]
        by_cases h1 : a = c
        · have h2 : ¬ k = f := fun h2 => hc ⟨h1, h2⟩
          simp [h2]
        · simp [h1]
      simp only [zhs, hf, cond_false] at h
      have ih := zss_ok (I := I) (v := v) h
      funext b j
      have ihb := congrFun (congrFun ih b) j
      simp only [zss, hf, cond_false, zov]
      rw [← ihb]
      by_cases hb : b = a
      · subst hb
        simp only [if_true]
        by_cases hj : j = k
        · subst hj
          simp [hf]
        · simp [hj]
      · simp [hb]
theorem zmr_ok {α : Type} {I : Nat → Nat → α} {L : List (Nat × Option Nat × (Nat → α))} : ∀ {LY : List (Nat × Option Nat × (Nat → α))}, zhm L LY = true → zov (zov I L) LY = zov I (zmr L LY)
  | [], _ => rfl
  | (c, none, g) :: r, h => by
    simp only [zhm, Bool.and_eq_true] at h
    rw [zmr, ← zst_ok h.1, ← zmr_ok h.2]
    funext b
    simp only [zov, zbq]
    by_cases hb : b = c
    · simp [hb]
    · simp [hb]
  | (c, some f, g) :: r, h => by
    simp only [zhm, Bool.and_eq_true] at h
    rw [zmr, ← zss_ok h.1, ← zmr_ok h.2]
    funext b j
    simp only [zov, zbq]
    by_cases hb : b = c
    · subst hb
      by_cases hj : j = f
      · simp [hj]
      · simp [hj]
    · simp [hb]
theorem zid_n {α : Type} {I : Nat → Nat → α} : zov I [] = I := rfl
theorem zid_a {α : Type} {I : Nat → Nat → α} {c : Nat} {L : List (Nat × Option Nat × (Nat → α))} (h : zov I L = I) : zov I ((c, none, I c) :: L) = I := by
  funext b
  simp only [zov, zbq]
  by_cases hb : b = c
  · simp [hb]
  · simp [hb, h]
theorem zid_s {α : Type} {I : Nat → Nat → α} {c f : Nat} {L : List (Nat × Option Nat × (Nat → α))} (h : zov I L = I) : zov I ((c, some f, fun _ => I c f) :: L) = I := by
  funext b j
  simp only [zov, zbq]
  by_cases hb : b = c ∧ j = f
  · obtain ⟨rfl, rfl⟩ := hb; simp
  · have : (decide (b = c) && decide (j = f)) = false := by
      by_cases h1 : b = c
      · have h2 : ¬ j = f := fun h2 => hb ⟨h1, h2⟩
        simp [h2]
      · simp [h1]
    rw [this, h]
    rfl
