/-! READING LINES: both sides, a line each -/
/-- what holds after a step of both loops -/
def LK {α β α' β' : Type} (P : α → α' → Prop) (Q : β → β' → Prop) (r : α ⊕ β) (s : α' ⊕ β') : Prop := match r, s with
  | .inl a, .inl a' => P a a'
  | .inr x, .inr y => Q x y
  | _, _ => False
theorem zwp_and {α : Type} {o : Option α} {P : α → Prop} (h : zwp o P) : ∃ a, o = some a ∧ P a := zw_ex h
theorem zl_two {α β α' β' : Type} {f : α → Option (α ⊕ β)} {g : α' → Option (α' ⊕ β')} {Q : β → β' → Prop} : ∀ (n N N' : Nat) (P : Nat → α → α' → Prop) (a : α) (a' : α'), n < N → n < N' → P 0 a a' → (∀ k, k < n → ∀ a a', P k a a' → zwp (f a) (fun r => zwp (g a') (fun s => LK (P (k + 1)) Q r s))) → (∀ a a', P n a a' → zwp (f a) (fun r => zwp (g a') (fun s => LK (fun _ _ => False) Q r s))) → zwp (zitr f N a) (fun x => zwp (zitr g N' a') (fun y => Q x y)) := by
  intro n
  induction n with
  | zero =>
    intro N N' P a a' hN hN' h0 _ he
    obtain ⟨M, rfl⟩ : ∃ M, N = M + 1 := ⟨N - 1, by omega⟩
    obtain ⟨M', rfl⟩ : ∃ M, N' = M + 1 := ⟨N' - 1, by omega⟩
    obtain ⟨r, er, hr⟩ := zw_ex (he a a' h0)
    obtain ⟨s, es, hs⟩ := zw_ex hr
    show zwp (match f a with | some (.inl a') => zitr f M a' | some (.inr b) => some b | none => none) _
    rw [er]
    cases r with
    | inl x => cases s with
      | inl y => exact hs.elim
      | inr y => exact hs.elim
    | inr x => cases s with
      | inl y => exact hs.elim
      | inr y =>
        refine zwi ?_
        show zwp (match g a' with | some (.inl a') => zitr g M' a' | some (.inr b) => some b | none => none) _
        rw [es]
        exact zwi hs
  | succ n ih =>
    intro N N' P a a' hN hN' h0 hst he
    obtain ⟨M, rfl⟩ : ∃ M, N = M + 1 := ⟨N - 1, by omega⟩
    obtain ⟨M', rfl⟩ : ∃ M, N' = M + 1 := ⟨N' - 1, by omega⟩
    obtain ⟨r, er, hr⟩ := zw_ex (hst 0 (by omega) a a' h0)
    obtain ⟨s, es, hs⟩ := zw_ex hr
    show zwp (match f a with | some (.inl a') => zitr f M a' | some (.inr b) => some b | none => none) _
    rw [er]
    cases r with
    | inl x => cases s with
      | inl y =>
        have hi := ih M M' (fun k => P (k + 1)) x y (by omega) (by omega) hs (fun k hk => hst (k + 1) (by omega)) he
        refine zwp_mono hi ?_
        intro z hz
        show zwp (match g a' with | some (.inl a') => zitr g M' a' | some (.inr b) => some b | none => none) _
        rw [es]
        exact hz
      | inr y => exact hs.elim
    | inr x => cases s with
      | inl y => exact hs.elim
      | inr y =>
        refine zwi ?_
        show zwp (match g a' with | some (.inl a') => zitr g M' a' | some (.inr b) => some b | none => none) _
        rw [es]
        exact zwi hs
/-- both loops, and what comes behind them -/
theorem zl_two2 {α β α' β' γ γ' : Type} {f : α → Option (α ⊕ β)} {g : α' → Option (α' ⊕ β')} {kf : β → Option γ} {kg : β' → Option γ'} {R : γ → γ' → Prop} (P : Nat → α → α' → Prop) (Q : β → β' → Prop) (n : Nat) (a : α) (a' : α') (hn : n < 2147483648) (h0 : P 0 a a') (hs : ∀ k, k < n → ∀ a a', P k a a' → zwp (f a) (fun r => zwp (g a') (fun s => LK (P (k + 1)) Q r s))) (he : ∀ a a', P n a a' → zwp (f a) (fun r => zwp (g a') (fun s => LK (fun _ _ => False) Q r s))) (hk : ∀ x y, Q x y → zwp (kf x) (fun u => zwp (kg y) (fun v => R u v))) : zwp (Option.bind (zitr f zFU a) kf) (fun u => zwp (Option.bind (zitr g zFU a') kg) (fun v => R u v)) := by
  have h := zl_two n zFU zFU P a a' (by rw [zFU_eq]; exact hn) (by rw [zFU_eq]; exact hn) h0 hs he
  refine zi_bind (zwp_mono h ?_)
  intro x hx
  obtain ⟨y, ey, hy⟩ := zw_ex hx
  refine zwp_mono (hk x y hy) ?_
  intro u hu
  exact zi_beq ey hu
/-- a rule in the class's code and in the reference's -/
def RuR (rc : Nat → Int32) (tp : Nat) (cd : Nat → Int32) (sz at_ : Int32) : Prop := (sz = 0 ∧ at_ = -1) ∨ (∃ out a t, 0 < out.length ∧ sz = nI out.length ∧ stL cd out.length = out ∧ at_ = nI a ∧ a < 1400 ∧ CRL rc a out t ∧ rc t = 0 ∧ t + 1 ≤ tp ∧ t < 1400 ∧ okL out ∧ dep out = 1 ∧ out.length ≤ 700)
theorem RuR.fr {rc rc' cd : Nat → Int32} {tp tp' : Nat} {sz at_ : Int32} (h : RuR rc tp cd sz at_) (e : ∀ j, j < tp → rc' j = rc j) (hl : tp ≤ tp') : RuR rc' tp' cd sz at_ := by
  rcases h with h | ⟨out, a, t, h1, h2, h3, h4, h5, h6, h7, h8, h9, h10, h11, h12⟩
  · exact .inl h
  · exact .inr ⟨out, a, t, h1, h2, h3, h4, h5, CRL_fr h6 (fun j hj => e j (by omega)), by rw [e t (by omega)]; exact h7, by omega, h9, h10, h11, h12⟩
/-- the plan that is being read, in the class and in the reference -/
def PR (W H p : Nat) (db dt fg : Int32) (gc : Nat → Int32) (gs : Int32) (hc : Nat → Int32) (hs : Int32) (lt : Nat → Int32) (lts : Int32) (sc : Nat → Int32) (ss : Int32) (st sp : Nat → Int32) (wls : Int64) (wy : Nat → Int32) (nd nf nga nha : Int32) (nl : Nat → Int32) (nll : Int32) (nr nsa : Nat → Int32) (nss : Int32) (nwl nw rc : Nat → Int32) (tp : Int32) : Prop :=
  ∃ F S L wl t, fg = nI F ∧ nf = nI F ∧ F ≤ 8 ∧ ss = nI S ∧ nss = nI S ∧ S ≤ 8 ∧ lts = nI L ∧ nll = nI L ∧ L ≤ 8 ∧ wls = lN wl ∧ wl < 2 ^ (W * H) ∧ tp = nI t ∧ t ≤ 2 * p ∧ ((dt = 0 ∧ nd = -1 ∧ db = 3) ∨ (dt = 1 ∧ ∃ v, v ≤ 9 ∧ nd = nI v ∧ db = nI v)) ∧ (∀ f, f < F → ∃ c, c < W * H ∧ st f = nI c ∧ nr (1 + f) = nI c) ∧ (∀ f, f < F → ∃ s, 0 < s ∧ s ≤ 8 ∧ sp f = nI s ∧ nwl f = nI s ∧ ∀ k, k < s → ∃ w, w ≤ 4 ∧ wy (f * 8 + k) = nI w ∧ nw (8 * f + k) = nI w) ∧ (∀ s, s < S → ∃ c, c < W * H ∧ sc s = nI c ∧ nsa s = nI c) ∧ (∀ k, k < L → lt k = nl k) ∧ (∀ c, c < 36 → nr (33 + c) = b2 (wl.testBit c)) ∧ nr 0 = 0 ∧ nr 69 = 0 ∧ (∀ k, 9 ≤ k → k < 33 → nr k = 0) ∧ RuR rc t gc gs nga ∧ RuR rc t hc hs nha
/-- the end of a line of the reference, behind a fault -/
theorem ml_bad {α : Type} {tape : Nat → Int32} {k : Nat} {fk fp l0 nx pl sg so va lg : Int32} {wd : Int64} {kk : Int32 × Int32 × Int32 × Int32 × Int32 × Int32 × Int32 × Int32 × Int64 → Option α} {Q : α → Prop} (h1 : fk = nI k) (h2 : 1 ≤ k) (h3 : k ≤ 5) (h : zwp (kk (fk, fp, l0, nx, pl, sg, so, va, wd)) Q) : zwp (Option.bind (f_X12_isSign 59 sg so) (fun r30 => Option.bind (f_X12_need r30 fk fp l0 lg nx pl sg so tape va wd) kk)) Q := by
  refine zi_bind (zwp_mono (Q := fun _ => True) ?_ ?_)
  · unfold f_X12_isSign
    exact zi_c (fun _ => zi_c (fun _ => zwi trivial) (fun _ => zwi trivial)) (fun _ => zwi trivial)
  intro r30 _
  unfold f_X12_need
  refine zi_bind (zi_beq (a := 0) ?_ (zi_t rfl (zwi h)))
  unfold f_X12_isGood
  rw [if_neg (fun e => by rw [h1] at e; have := (nI_z0 (n := k) (by omega)).mp e; omega)]
/-- the end of a line of the reference -/
theorem ml_good {α : Type} {b tape : Nat → Int32} {n p : Nat} {l0 nx pl sg so va : Int32} {wd : Int64} {kk : Int32 × Int32 × Int32 × Int32 × Int32 × Int32 × Int32 × Int32 × Int64 → Option α} {Q : α → Prop} (hn : n ≤ 700) (hp : p ≤ n) (htp : ∀ k, k < n → tape k = b k) (hT : MTok b n p l0 nx pl sg so va wd) (h1 : sgI b n p 59 = true → ∀ a, a.1 = 0 → a.2.1 = -1 → MTok b n (nxP b n p) a.2.2.1 a.2.2.2.1 a.2.2.2.2.1 a.2.2.2.2.2.1 a.2.2.2.2.2.2.1 a.2.2.2.2.2.2.2.1 a.2.2.2.2.2.2.2.2 → zwp (kk a) Q) (h2 : sgI b n p 59 = false → ∀ a, a.1 = nI 1 → a.2.1 = nI p → zwp (kk a) Q) : zwp (Option.bind (f_X12_isSign 59 sg so) (fun r30 => Option.bind (f_X12_need r30 0 (-1) l0 (nI n) nx pl sg so tape va wd) kk)) Q := by
  refine zi_beq (m_sign hT.2.2.2.1 hT.2.2.2.2.1) ?_
  unfold f_X12_need
  refine zi_bind (zi_beq (a := 1) rfl (zi_f (by decide) ?_))
  cases h59 : sgI b n p 59 with
  | true =>
    refine zi_f (by decide) ?_
    refine zi_bind (zwp_mono (m_gs hn hp htp hT.2.1) ?_)
    rintro ⟨o4, o5, o6, o7, o8, o9, o10⟩ hT2
    exact zwi (h1 h59 _ rfl rfl hT2)
  | false =>
    refine zi_t rfl ?_
    refine zi_beq m_wrong0 (zwi (h2 h59 _ rfl hT.2.2.1))
theorem c_readStop {b : Nat → Int32} {n p : Nat} {e k nm pl : Int32} (hn : n ≤ 700) (hp : p ≤ n) (ht : CTok b n p e k nm pl) : zwp (f_X4_readStop b e k (nI n) nm pl) (fun r => (sgI b n p 59 = true → r.1 = 0 ∧ CTok b n (nxP b n p) r.2.1 r.2.2.1 r.2.2.2.1 r.2.2.2.2) ∧ (sgI b n p 59 = false → r.1 = nI 1 ∧ r.2.2.2.2 = nI p)) := by
  obtain ⟨t1, t2, t3, t4⟩ := ht
  subst t1 t2 t3
  unfold f_X4_readStop
  refine zi_beq (c_sign hn) ?_
  cases h59 : sgI b n p 59 with
  | true =>
    refine zi_f (by decide) ?_
    refine zi_bind (zwp_mono (c_adv hn hp rfl) ?_)
    rintro ⟨o2, o3, o4, o5⟩ ht2
    exact zwi ⟨fun _ => ⟨rfl, ht2⟩, fun q => (by cases q)⟩
  | false => exact zi_t rfl (zwi ⟨fun q => (by cases q), fun _ => ⟨rfl, rfl⟩⟩)
