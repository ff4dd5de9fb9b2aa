/-! FUNCTIONS THAT MAY FAIL: what a method does to the cells that it touches, as a function; how it is carried over to the pure machine -/
theorem zwp_ex : ∃ f : (α : Type) → Option α → (α → Prop) → Prop, ∀ α o Q, f α o Q = (match o with | some a => Q a | none => False) := ⟨fun _ o Q => match o with | some a => Q a | none => False, fun _ _ _ => rfl⟩
/-- the function comes to an end, and Q holds of it (not to be unfolded: a number below 0 would be counted down) -/
noncomputable def zwp {α : Type} (o : Option α) (Q : α → Prop) : Prop := Classical.choose zwp_ex α o Q
theorem zwp_some {α : Type} {a : α} {Q : α → Prop} : zwp (some a) Q = Q a := Classical.choose_spec zwp_ex α (some a) Q
theorem zwp_none {α : Type} {Q : α → Prop} : zwp none Q = False := Classical.choose_spec zwp_ex α none Q
theorem zws {α : Type} {a : α} {Q : α → Prop} (h : zwp (some a) Q) : Q a := by rw [zwp_some] at h; exact h
theorem zwi {α : Type} {a : α} {Q : α → Prop} (h : Q a) : zwp (some a) Q := by rw [zwp_some]; exact h
theorem zwn {α : Type} {Q : α → Prop} (h : zwp none Q) : False := by rw [zwp_none] at h; exact h
theorem zwp_bind {α β : Type} {o : Option α} {k : α → Option β} {Q : β → Prop} (h : zwp (Option.bind o k) Q) : zwp o (fun a => zwp (k a) Q) := by
  cases o with
  | none => exact (zwn h).elim
  | some a => exact zwi h
theorem zwp_mono {α : Type} {o : Option α} {Q Q' : α → Prop} (h : zwp o Q) (k : ∀ a, Q a → Q' a) : zwp o Q' := by
  cases o with
  | none => exact (zwn h).elim
  | some a => exact zwi (k a (zws h))
theorem zwp_t {α : Type} {c : Prop} {dc : Decidable c} {a b : Option α} {Q : α → Prop} (h : zwp (@ite _ c dc a b) Q) (hc : c) : zwp a Q := by
  rw [if_pos hc] at h; exact h
theorem zwp_f {α : Type} {c : Prop} {dc : Decidable c} {a b : Option α} {Q : α → Prop} (h : zwp (@ite _ c dc a b) Q) (hc : ¬ c) : zwp b Q := by
  rw [if_neg hc] at h; exact h
/-- an index within its row -/
def zbnd {α : Type} (i : Int32) (n : Nat) (o : Option α) : Option α := if i < 0 ∨ n ≤ i.toNatClampNeg then none else o
theorem zwp_bnd {α : Type} {i : Int32} {n : Nat} {o : Option α} {Q : α → Prop} (h : zwp (zbnd i n o) Q) : ¬ (i < 0 ∨ n ≤ i.toNatClampNeg) ∧ zwp o Q := by
  unfold zbnd at h
  by_cases hc : i < 0 ∨ n ≤ i.toNatClampNeg
  · rw [if_pos hc] at h; exact (zwn h).elim
  · rw [if_neg hc] at h; exact ⟨hc, h⟩
/-- a divisor -/
def znz {α : Type} (y : Int32) (o : Option α) : Option α := if y = 0 then none else o
theorem zwp_nz {α : Type} {y : Int32} {o : Option α} {Q : α → Prop} (h : zwp (znz y o) Q) : ¬ y = 0 ∧ zwp o Q := by
  unfold znz at h
  by_cases hc : y = 0
  · rw [if_pos hc] at h; exact (zwn h).elim
  · rw [if_neg hc] at h; exact ⟨hc, h⟩
/-- a truth value -/
def zbol {α : Type} (v : Int32) (o : Option α) : Option α := if (v == 0 || v == 1) = true then o else none
theorem zwp_bol {α : Type} {v : Int32} {o : Option α} {Q : α → Prop} (h : zwp (zbol v o) Q) : (v == 0 || v == 1) = true ∧ zwp o Q := by
  unfold zbol at h
  by_cases hc : (v == 0 || v == 1) = true
  · rw [if_pos hc] at h; exact ⟨hc, h⟩
  · rw [if_neg hc] at h; exact (zwn h).elim
/-- the places of a copy -/
def zcpg {α : Type} (sp dp n : Int32) (n0 n1 : Nat) (o : Option α) : Option α := if ¬ sp < 0 ∧ ¬ dp < 0 ∧ ¬ n < 0 ∧ sp.toNatClampNeg + n.toNatClampNeg ≤ n0 ∧ dp.toNatClampNeg + n.toNatClampNeg ≤ n1 then o else none
theorem zwp_cpg {α : Type} {sp dp n : Int32} {n0 n1 : Nat} {o : Option α} {Q : α → Prop} (h : zwp (zcpg sp dp n n0 n1 o) Q) : (¬ sp < 0 ∧ ¬ dp < 0 ∧ ¬ n < 0 ∧ sp.toNatClampNeg + n.toNatClampNeg ≤ n0 ∧ dp.toNatClampNeg + n.toNatClampNeg ≤ n1) ∧ zwp o Q := by
  unfold zcpg at h
  by_cases hc : ¬ sp < 0 ∧ ¬ dp < 0 ∧ ¬ n < 0 ∧ sp.toNatClampNeg + n.toNatClampNeg ≤ n0 ∧ dp.toNatClampNeg + n.toNatClampNeg ≤ n1
  · rw [if_pos hc] at h; exact ⟨hc, h⟩
  · rw [if_neg hc] at h; exact (zwn h).elim
/-- a loop: goes on with a new state, or ends with an answer -/
def zitr {α β : Type} (f : α → Option (α ⊕ β)) : Nat → α → Option β
  | 0, _ => none
  | n + 1, a => match f a with
    | some (.inl a') => zitr f n a'
    | some (.inr b) => some b
    | none => none
theorem zitr_ev {α β : Type} {f : α → Option (α ⊕ β)} {G : α → Prop} {K : β → Prop} (step : ∀ a, zwp (f a) (fun r => Sum.elim G K r) → G a) : ∀ (n : Nat) (a : α), zwp (zitr f n a) K → G a
  | 0, _, h => (zwn h).elim
  | n + 1, a, h => step a (by
      unfold zitr at h
      revert h
      cases f a with
      | none => exact fun h => (zwn h).elim
      | some r => cases r with
        | inl a' => exact fun h => zwi (zitr_ev step n a' h)
        | inr b =>
          intro h
          have h2 : K b := zws (show zwp (some b) K from h)
          exact zwi h2)
theorem zfu_ex : ∃ n : Nat, n = 2147483648 := ⟨_, rfl⟩
/-- more rounds than any loop takes -/
noncomputable def zFU : Nat := Classical.choose zfu_ex
theorem zFU_eq : zFU = 2147483648 := Classical.choose_spec zfu_ex
/-- numbers by cell and place, with other ones laid over them -/
def zov {α : Type} (I : Nat → Nat → α) : List (Nat × Option Nat × (Nat → α)) → Nat → Nat → α
  | [], b => I b
  | (c, none, g) :: r, b => cond (Nat.beq b c) g (zov I r b)
  | (c, some f, g) :: r, b => fun k => cond (Nat.beq b c && Nat.beq k f) (g 0) (zov I r b k)
def zst {α : Type} : List (Nat × Option Nat × (Nat → α)) → Nat → (Nat → α) → List (Nat × Option Nat × (Nat → α))
  | [], _, _ => []
  | (c, none, g) :: r, a, g' => cond (Nat.beq a c) ((c, none, g') :: r) ((c, none, g) :: zst r a g')
  | (c, some f, g) :: r, a, g' => (c, some f, g) :: zst r a g'
def zha {α : Type} : List (Nat × Option Nat × (Nat → α)) → Nat → Bool
  | [], _ => false
  | (c, none, _) :: r, a => cond (Nat.beq a c) true (zha r a)
  | (c, some _, _) :: r, a => cond (Nat.beq a c) false (zha r a)
def zss {α : Type} : List (Nat × Option Nat × (Nat → α)) → Nat → Nat → α → List (Nat × Option Nat × (Nat → α))
  | [], _, _, _ => []
  | (c, none, g) :: r, a, k, v => (c, none, g) :: zss r a k v
  | (c, some f, g) :: r, a, k, v => cond (Nat.beq a c && Nat.beq k f) ((c, some f, fun _ => v) :: r) ((c, some f, g) :: zss r a k v)
def zhs {α : Type} : List (Nat × Option Nat × (Nat → α)) → Nat → Nat → Bool
  | [], _, _ => false
  | (c, none, _) :: r, a, k => cond (Nat.beq a c) false (zhs r a k)
  | (c, some f, _) :: r, a, k => cond (Nat.beq a c && Nat.beq k f) true (zhs r a k)
/-- keys in their order -/
def zkl {α : Type} (e y : Nat × Option Nat × (Nat → α)) : Bool := Nat.blt e.1 y.1 || (Nat.beq e.1 y.1 && (match e.2.1, y.2.1 with
  | some f, some g => Nat.blt f g
  | _, _ => false))
def zke {α : Type} (e y : Nat × Option Nat × (Nat → α)) : Bool := Nat.beq e.1 y.1 && (match e.2.1, y.2.1 with
  | some f, some g => Nat.beq f g
  | none, none => true
  | _, _ => false)
def zmr {α : Type} : List (Nat × Option Nat × (Nat → α)) → List (Nat × Option Nat × (Nat → α)) → List (Nat × Option Nat × (Nat → α))
  | [], _ => []
  | e :: r, [] => e :: r
  | e :: r, y :: s => cond (zke e y) (y :: zmr r s) (e :: zmr r (y :: s))
def zhm {α : Type} : List (Nat × Option Nat × (Nat → α)) → List (Nat × Option Nat × (Nat → α)) → Bool
  | _, [] => true
  | [], _ :: _ => false
  | e :: r, y :: s => cond (zke e y) (zhm r s) (zkl e y && zhm r (y :: s))
def zsrt {α : Type} : List (Nat × Option Nat × (Nat → α)) → Bool
  | [] => true
  | [_] => true
  | e :: y :: r => zkl e y && zsrt (y :: r)
theorem zbq {a b : Nat} : Nat.beq a b = decide (a = b) := by
  cases h : Nat.beq a b with
  | true => rw [decide_eq_true (Nat.eq_of_beq_eq_true h)]
  | false => rw [decide_eq_false (Nat.ne_of_beq_eq_false h)]
theorem zst_ok {α : Type} {I : Nat → Nat → α} {a : Nat} {g' : Nat → α} : ∀ {L : List (Nat × Option Nat × (Nat → α))}, zha L a = true → (fun b => if b = a then g' else zov I L b) = zov I (zst L a g')
  | [], h => by cases h
  | (c, none, g) :: r, h => by
    by_cases hc : a = c
    · subst hc
      funext b
      simp only [zst, zbq, decide_true, cond_true, zov]
      by_cases hb : b = a
      · simp [hb]
      · simp [hb]
    · simp only [zha, zbq, hc, decide_false, cond_false] at h
      have ih := zst_ok (I := I) (g' := g') h
      funext b
      simp only [zst, zbq, hc, decide_false, cond_false, zov]
      rw [← ih]
      by_cases hb : b = c
      · subst hb; simp [Ne.symm hc]
      · simp [hb]
  | (c, some f, g) :: r, h => by
    by_cases hc : a = c
    · simp only [zha, zbq, hc, decide_true, cond_true] at h
      cases h
    · simp only [zha, zbq, hc, decide_false, cond_false] at h
      have ih := zst_ok (I := I) (g' := g') h
      funext b k
      simp only [zst, zov]
      rw [← ih]
      by_cases hb : b = c
      · subst hb; simp [Ne.symm hc]
      · simp [zbq, hb]
theorem zss_ok {α : Type} {I : Nat → Nat → α} {a k : Nat} {v : α} : ∀ {L : List (Nat × Option Nat × (Nat → α))}, zhs L a k = true → (fun b => if b = a then (fun j => if j = k then v else zov I L a j) else zov I L b) = zov I (zss L a k v)
  | [], h => by cases h
  | (c, none, g) :: r, h => by
    by_cases hc : a = c
    · simp only [zhs, zbq, hc, decide_true, cond_true] at h
      cases h
    · simp only [zhs, zbq, hc, decide_false, cond_false] at h
      have ih := zss_ok (I := I) (v := v) h
      funext b j
      have ihb := congrFun (congrFun ih b) j
      simp only [zss, zov, zbq]
      by_cases hb : b = c
      · subst hb; simp [Ne.symm hc]
      · simp only [hb, decide_false, cond_false]
        rw [← ihb]
        by_cases hba : b = a
        · subst hba; simp [hb]
        · simp [hba]
  | (c, some f, g) :: r, h => by
    by_cases hc : a = c ∧ k = f
    · obtain ⟨rfl, rfl⟩ := hc
      funext b j
      simp only [zss, zbq, decide_true, Bool.and_self, cond_true, zov]
      by_cases hb : b = a
      · subst hb
        by_cases hj : j = k
        · simp [hj]
        · simp [hj]
      · simp [hb]
    · have hf : (Nat.beq a c && Nat.beq k f) = false := by
        rw [zbq, zbq]
        by_cases h1 : a = c
        · have h2 : ¬ k = f := fun h2 => hc ⟨h1, h2⟩
          simp [h2]
        · simp [h1]
      simp only [zhs, hf, cond_false] at h
      have ih := zss_ok (I := I) (v := v) h
      funext b j
      have ihb := congrFun (congrFun ih b) j
      simp only [zss, hf, cond_false, zov]
      rw [← ihb]
      by_cases hb : b = a
      · subst hb
        simp only [if_true]
        by_cases hj : j = k
        · subst hj
          simp [hf]
        · simp [hj]
      · simp [hb]
/-- whether a place is one of an entry's -/
def zat {α : Type} (e : Nat × Option Nat × (Nat → α)) (b k : Nat) : Bool := match e.2.1 with
  | none => decide (b = e.1)
  | some f => decide (b = e.1) && decide (k = f)
def zvl {α : Type} (e : Nat × Option Nat × (Nat → α)) (k : Nat) : α := match e.2.1 with
  | none => e.2.2 k
  | some _ => e.2.2 0
theorem zov_c {α : Type} {I : Nat → Nat → α} {e : Nat × Option Nat × (Nat → α)} {r : List (Nat × Option Nat × (Nat → α))} {b k : Nat} : zov I (e :: r) b k = cond (zat e b k) (zvl e k) (zov I r b k) := by
  obtain ⟨c, o, g⟩ := e
  cases o with
  | none =>
    simp only [zov, zat, zvl, zbq]
    by_cases h : b = c
    · simp [h]
    · simp [h]
  | some f => simp only [zov, zat, zvl, zbq]
theorem zov_pt {α : Type} {I I' : Nat → Nat → α} {b k : Nat} (h : I b k = I' b k) : ∀ (s : List (Nat × Option Nat × (Nat → α))), zov I s b k = zov I' s b k
  | [] => h
  | y :: s => by rw [zov_c, zov_c, zov_pt h s]
theorem zke_at {α : Type} {e y : Nat × Option Nat × (Nat → α)} (h : zke e y = true) (b k : Nat) : zat e b k = zat y b k := by
  obtain ⟨c, o, g⟩ := e
  obtain ⟨c', o', g'⟩ := y
  simp only [zke, zbq, Bool.and_eq_true, decide_eq_true_eq] at h
  obtain ⟨rfl, h⟩ := h
  cases o with
  | none => cases o' with
    | none => rfl
    | some f => cases h
  | some f => cases o' with
    | none => cases h
    | some f' =>
      have : f = f' := of_decide_eq_true h
      subst this
      rfl
theorem zkl_at {α : Type} {e y : Nat × Option Nat × (Nat → α)} (h : zkl e y = true) {b k : Nat} (ha : zat e b k = true) : zat y b k = false := by
  obtain ⟨c, o, g⟩ := e
  obtain ⟨c', o', g'⟩ := y
  simp only [zkl, zbq, Bool.or_eq_true, Bool.and_eq_true, decide_eq_true_eq] at h
  rcases h with h | ⟨rfl, h⟩
  · have hlt : c < c' := by simpa [Nat.blt_eq] using h
    have hb : b = c := by
      cases o with
      | none => simpa [zat] using ha
      | some f => simp [zat] at ha; exact ha.1
    have : ¬ b = c' := by omega
    cases o' with
    | none => simp [zat, this]
    | some f => simp [zat, this]
  · cases o with
    | none => cases h
    | some f => cases o' with
      | none => cases h
      | some f' =>
        have hlt : f < f' := by simpa [Nat.blt_eq] using h
        simp [zat] at ha
        simp [zat]
        omega
theorem zkl_tr {α : Type} {e y z : Nat × Option Nat × (Nat → α)} (h : zkl e y = true) (h2 : zkl y z = true) : zkl e z = true := by
  obtain ⟨c, o, g⟩ := e
  obtain ⟨c', o', g'⟩ := y
  obtain ⟨c2, o2, g2⟩ := z
  simp only [zkl, zbq, Bool.or_eq_true, Bool.and_eq_true, decide_eq_true_eq, Nat.blt_eq] at h h2 ⊢
  rcases h with h | ⟨rfl, h⟩
  · rcases h2 with h2 | ⟨rfl, h2⟩
    · exact Or.inl (by omega)
    · exact Or.inl h
  · rcases h2 with h2 | ⟨rfl, h2⟩
    · exact Or.inl h2
    · right
      refine ⟨rfl, ?_⟩
      cases o with
      | none => cases h
      | some f => cases o' with
        | none => cases h
        | some f' => cases o2 with
          | none => cases h2
          | some f2 =>
            simp only [Nat.blt_eq] at h h2 ⊢
            omega
theorem zov_no {α : Type} {I : Nat → Nat → α} {e : Nat × Option Nat × (Nat → α)} {b k : Nat} (ha : zat e b k = true) : ∀ (y : Nat × Option Nat × (Nat → α)) (s : List (Nat × Option Nat × (Nat → α))), zkl e y = true → zsrt (y :: s) = true → zov I (y :: s) b k = I b k
  | y, [], h, _ => by rw [zov_c, zkl_at h ha]; rfl
  | y, z :: s, h, hs => by
    simp only [zsrt, Bool.and_eq_true] at hs
    rw [zov_c, zkl_at h ha]
    exact zov_no ha z s (zkl_tr h hs.1) hs.2
theorem zmr_ok {α : Type} {I : Nat → Nat → α} : ∀ {L LY : List (Nat × Option Nat × (Nat → α))}, zhm L LY = true → zsrt LY = true → zov (zov I L) LY = zov I (zmr L LY)
  | [], [], _, _ => rfl
  | e :: r, [], _, _ => rfl
  | [], _ :: _, h, _ => by simp [zhm] at h
  | e :: r, y :: s, h, hs => by
    have hs' : zsrt s = true := by
      cases s with
      | nil => rfl
      | cons z s => simp only [zsrt, Bool.and_eq_true] at hs; exact hs.2
    funext b k
    unfold zmr
    unfold zhm at h
    cases hk : zke e y with
    | true =>
      rw [hk] at h
      rw [cond_true, zov_c, zov_c]
      have ih := congrFun (congrFun (zmr_ok (I := I) (L := r) (LY := s) h hs') b) k
      cases hy : zat y b k with
      | true => rfl
      | false =>
        rw [cond_false, cond_false, ← ih]
        refine zov_pt ?_ s
        rw [zov_c, zke_at hk, hy]
        rfl
    | false =>
      rw [hk, cond_false, Bool.and_eq_true] at h
      rw [cond_false]
      have ih := congrFun (congrFun (zmr_ok (I := I) (L := r) (LY := y :: s) h.2 hs) b) k
      rw [zov_c (e := e) (r := zmr r (y :: s))]
      cases he : zat e b k with
      | true =>
        rw [zov_no he y s h.1 hs, zov_c, he]
        rfl
      | false =>
        rw [cond_false, ← ih]
        refine zov_pt ?_ (y :: s)
        rw [zov_c, he]
        rfl
theorem zid_n {α : Type} {I : Nat → Nat → α} : zov I [] = I := rfl
theorem zid_a {α : Type} {I : Nat → Nat → α} {c : Nat} {L : List (Nat × Option Nat × (Nat → α))} (h : zov I L = I) : zov I ((c, none, I c) :: L) = I := by
  funext b
  simp only [zov, zbq]
  by_cases hb : b = c
  · simp [hb]
  · simp [hb, h]
theorem zid_s {α : Type} {I : Nat → Nat → α} {c f : Nat} {L : List (Nat × Option Nat × (Nat → α))} (h : zov I L = I) : zov I ((c, some f, fun _ => I c f) :: L) = I := by
  funext b j
  simp only [zov, zbq]
  by_cases hb : b = c ∧ j = f
  · obtain ⟨rfl, rfl⟩ := hb; simp
  · have : (decide (b = c) && decide (j = f)) = false := by
      by_cases h1 : b = c
      · have h2 : ¬ j = f := fun h2 => hb ⟨h1, h2⟩
        simp [h2]
      · simp [h1]
    rw [this, h]
    rfl
