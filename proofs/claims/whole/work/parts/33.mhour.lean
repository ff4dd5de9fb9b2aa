/-! THE REFERENCE'S SIDE OF AN HOUR -/
theorem ix_0 {b : Nat} : nI b + 0 = nI b := by rw [show (0 : Int32) = nI 0 from rfl, nI_add]; rfl
theorem ix_1 {b f : Nat} : nI b + 1 + nI f = nI (b + 1 + f) := by rw [nI_1, nI_add]
theorem ix_9 {b f : Nat} : nI b + 9 + nI f = nI (b + 9 + f) := by rw [show (9 : Int32) = nI 9 from rfl, nI_add, nI_add]
theorem ix_17 {b f : Nat} : nI b + 17 + nI f = nI (b + 17 + f) := by rw [show (17 : Int32) = nI 17 from rfl, nI_add, nI_add]
theorem ix_25 {b f : Nat} : nI b + 25 + nI f = nI (b + 25 + f) := by rw [show (25 : Int32) = nI 25 from rfl, nI_add, nI_add]
theorem ix_33 {b f : Nat} : nI b + 33 + nI f = nI (b + 33 + f) := by rw [show (33 : Int32) = nI 33 from rfl, nI_add, nI_add]
/-- where a value of the class's order stands in the reference's -/
def trv (j : Nat) : Nat := if j = 4 then 0 else if j = 5 then 5 else j + 1
/-- an operator of the class as the reference has it -/
def opm (it : Int32) : Int32 := if it = -11 then 5 else if it = -12 then 4 else if it = -13 then 3 else if it = -14 then 6 else if it = -15 then 7 else if it = -16 then 8 else if it = -17 then 9 else if it = -18 then 10 else 11
def isOp (it : Int32) : Prop := it = -11 ∨ it = -12 ∨ it = -13 ∨ it = -14 ∨ it = -15 ∨ it = -16 ∨ it = -17 ∨ it = -18 ∨ it = -19
/-- an item of the class's code at a place of the reference's; how long it is there -/
def citem (it : Int32) (code : Nat → Int32) (a l : Nat) : Prop :=
  (isOp it ∧ code a = opm it ∧ l = 1) ∨ (¬ it < 0 ∧ code a = 1 ∧ code (a + 1) = it ∧ l = 2) ∨ (∃ j, j < 6 ∧ (-1 : Int32) - it = nI j ∧ ¬ it < -6 ∧ it < 0 ∧ code a = 2 ∧ code (a + 1) = nI (trv j) ∧ l = 2)
/-- a whole rule of the class at a place of the reference's code -/
def crel (cc : Nat → Int32) (n : Nat) (code : Nat → Int32) (a : Nat) : Prop := ∃ pos : Nat → Nat, pos 0 = a ∧ pos n < 1400 ∧ code (pos n) = 0 ∧ ∀ k, k < n → ∃ l, citem (cc k) code (pos k) l ∧ pos (k + 1) = pos k + l
def rCode (cc : Nat → Int32) (n : Nat) (code : Nat → Int32) (at_ : Int32) : Prop := (n = 0 ∧ at_ = -1) ∨ (0 < n ∧ ∃ a, at_ = nI a ∧ crel cc n code a)
theorem isOp_lt {it : Int32} (h : isOp it) : it < -6 := by
  rcases h with h | h | h | h | h | h | h | h | h <;> subst h <;> decide
theorem m_works {it : Int32} (h : isOp it) (hn : ¬ it = -13) (a b : Int32) : f_X12_works (opm it) a b = some (rJoin it a b) := by
  rw [← c_join]
  rcases h with h | h | h | h | h | h | h | h | h
  · subst h; rfl
  · subst h; rfl
  · exact absurd h hn
  · subst h; rfl
  · subst h; rfl
  · subst h; rfl
  · subst h; rfl
  · subst h; rfl
  · subst h; rfl
theorem pos_lt {cc : Nat → Int32} {n : Nat} {code : Nat → Int32} {pos : Nat → Nat} (h : ∀ k, k < n → ∃ l, citem (cc k) code (pos k) l ∧ pos (k + 1) = pos k + l) : ∀ d k, k + d = n → pos k + d ≤ pos n
  | 0, k, e => by rw [← e]; exact Nat.le_refl _
  | d + 1, k, e => by
    obtain ⟨l, hl, hp⟩ := h k (by omega)
    have ih := pos_lt h d (k + 1) (by omega)
    have : 0 < l := by
      rcases hl with ⟨-, -, h⟩ | ⟨-, -, -, h⟩ | ⟨j, -, -, -, -, -, -, h⟩ <;> omega
    omega
theorem m_reckons {vals told cc code pile : Nat → Int32} {n a : Nat} (hok : rOk cc n) (h0 : 0 < n) (hc : crel cc n code a) (ht : ∀ j, j < 6 → told (trv j) = vals j) : zwp (f_X12_reckons (nI a) code pile told) (fun r => r.1 = rVal vals cc n) := by
  have hn7 := hok.1
  obtain ⟨pos, hp0, hpn, hend, hit⟩ := hc
  unfold f_X12_reckons
  refine zl_bind (P := fun k x => ∃ g, x = (nI (rDep cc k), nI (pos k), g) ∧ stk (rRun vals cc k) g) (Post := fun g => stk (rRun vals cc n) g) n (by omega) ⟨pile, by rw [hp0]; rfl, trivial⟩ ?_ ?_ ?_
  · rintro k hk _ ⟨g, rfl, hg⟩
    have hlen := rRun_len (vals := vals) hok (Nat.le_of_lt hk)
    have hdl := rDep_le hok (Nat.le_of_lt hk)
    obtain ⟨hk1, hk2⟩ := hok.2.2 k hk
    obtain ⟨l, hl, hpk⟩ := hit k hk
    have hpl := pos_lt hit (n - k) k (by omega)
    have hpl2 := pos_lt hit (n - (k + 1)) (k + 1) (by omega)
    have hrun : rRun vals cc (k + 1) = rItem vals (cc k) (rRun vals cc k) := rfl
    have hdep : rDep cc (k + 1) = if cc k < -6 then (if cc k = -13 then rDep cc k else rDep cc k - 1) else rDep cc k + 1 := rfl
    show zwp (zbnd (nI (pos k)) 1400 _) _
    rw [zbnd_nI (by omega) (by decide), nI_clamp (show pos k < 2 ^ 31 by omega), zbnd_nI (by omega) (by decide)]
    have push : ∀ v, rRun vals cc (k + 1) = v :: rRun vals cc k → rDep cc (k + 1) = rDep cc k + 1 → pos (k + 1) = pos k + 2 → Sum.elim (fun x => ∃ g, x = (nI (rDep cc (k + 1)), nI (pos (k + 1)), g) ∧ stk (rRun vals cc (k + 1)) g) (fun g => stk (rRun vals cc n) g) (.inl (nI (rDep cc k) + 1, nI (pos k) + 1 + 1, upd g (rDep cc k) v) : (Int32 × Int32 × (Nat → Int32)) ⊕ (Nat → Int32)) := by
      intro v hv hd hp
      refine ⟨upd g (rDep cc k) v, ?_, ?_⟩
      · rw [hd, hp, nI_1, nI_1, nI_1]
      · rw [hv]
        refine ⟨?_, stk_upd hg (by omega)⟩
        rw [hlen, pk_us]
    rcases hl with ⟨ho, hco, rfl⟩ | ⟨hi, hco, hco2, rfl⟩ | ⟨j, hj, ej, hi6, hi, hco, hco2, rfl⟩
    · have hi := isOp_lt ho
      rw [if_pos hi] at hdep
      unfold rItem at hrun
      rw [if_pos hi] at hrun
      by_cases hN : cc k = -13
      · rw [if_pos hN] at hdep hrun
        have h1 := (hk1 hi).1 hN
        rw [hco, hN]
        refine zi_f (by decide) (zi_f (by decide) (zi_f (by decide) (zi_t (by decide) ?_)))
        cases hr : rRun vals cc k with
        | nil => rw [hr] at hlen; simp at hlen; omega
        | cons x r =>
          rw [hr] at hlen hg hrun
          have hd : rDep cc k = r.length + 1 := by rw [← hlen]; rfl
          rw [hd, nI_s1, zbnd_nI (by omega) (by decide), nI_clamp (by omega), hg.1, b2_ite]
          refine zi_beq rfl ?_
          rw [zbnd_nI (by omega) (by decide)]
          refine zwi ⟨upd g r.length (b2 (decide (x = 0))), ?_, ?_⟩
          · rw [hdep, hd, hpk, nI_1]
          · rw [hrun]
            refine ⟨?_, stk_upd hg.2 (Nat.le_refl _)⟩
            rw [pk_us]
            by_cases ha : x = 0
            · simp [ha, b2]
            · simp [ha, b2]
      · rw [if_neg hN] at hdep hrun
        have h2 := (hk1 hi).2 hN
        have hop : ¬ opm (cc k) = 0 ∧ ¬ opm (cc k) = 1 ∧ ¬ opm (cc k) = 2 ∧ ¬ opm (cc k) = 3 := by
          rcases ho with h | h | h | h | h | h | h | h | h
          · rw [h]; decide
          · rw [h]; decide
          · exact absurd h hN
          · rw [h]; decide
          · rw [h]; decide
          · rw [h]; decide
          · rw [h]; decide
          · rw [h]; decide
          · rw [h]; decide
        rw [hco]
        refine zi_f hop.1 (zi_f hop.2.1 (zi_f hop.2.2.1 (zi_f hop.2.2.2 ?_)))
        cases hr : rRun vals cc k with
        | nil => rw [hr] at hlen; simp at hlen; omega
        | cons y r =>
          cases r with
          | nil => rw [hr] at hlen; simp at hlen; omega
          | cons x r =>
            rw [hr] at hlen hg hrun
            have hd : rDep cc k = r.length + 1 + 1 := by rw [← hlen]; rfl
            rw [hd, nI_m1a, nI_s1, zbnd_nI (by omega) (by decide), zbnd_nI (by omega) (by decide), nI_clamp (by omega), nI_clamp (by omega)]
            have ea : g r.length = x := hg.2.1
            have eb : g (r.length + 1) = y := hg.1
            rw [ea, eb]
            refine zi_beq (m_works ho hN _ _) ?_
            rw [zbnd_nI (by omega) (by decide)]
            refine zwi ⟨upd g r.length (rJoin (cc k) x y), ?_, ?_⟩
            · rw [hdep, hd, hpk, nI_1]
              rfl
            · rw [hrun]
              exact ⟨pk_us, stk_upd hg.2.2 (Nat.le_refl _)⟩
    · have hi6 : ¬ cc k < -6 := fun q => hi (by rw [fa_lt] at q ⊢; have e1 : ((-6 : Int32)).toInt = -6 := by decide
                                                have e0 : ((0 : Int32)).toInt = 0 := by decide
                                                omega)
      rw [if_neg hi6] at hdep
      unfold rItem at hrun
      rw [if_neg hi6, if_neg hi] at hrun
      have hd := hk2 hi6
      rw [hco]
      refine zi_f (by decide) (zi_t rfl ?_)
      rw [if_pos rfl, nI_1, zbnd_nI (by omega) (by decide), nI_clamp (show pos k + 1 < 2 ^ 31 by omega), hco2]
      refine zi_beq rfl ?_
      rw [zbnd_nI (by omega) (by decide), nI_clamp (by omega), ← nI_1 (pos k)]
      exact zwi (push _ hrun hdep hpk)
    · rw [if_neg hi6] at hdep
      unfold rItem at hrun
      rw [if_neg hi6, if_pos hi, ej, nI_clamp (by omega)] at hrun
      have hd := hk2 hi6
      have htj : trv j < 6 := by unfold trv; split; omega; split; omega; omega
      rw [hco]
      refine zi_f (by decide) (zi_f (by decide) (zi_t rfl ?_))
      rw [if_neg (by decide), nI_1, zbnd_nI (by omega) (by decide), nI_clamp (show pos k + 1 < 2 ^ 31 by omega), hco2, zbnd_nI htj (by decide), nI_clamp (by omega), ht j hj]
      refine zi_beq rfl ?_
      rw [zbnd_nI (by omega) (by decide), nI_clamp (by omega), ← nI_1 (pos k)]
      exact zwi (push _ hrun hdep hpk)
  · rintro _ ⟨g, rfl, hg⟩
    show zwp (zbnd (nI (pos n)) 1400 _) _
    rw [zbnd_nI (by omega) (by decide), nI_clamp (show pos n < 2 ^ 31 by omega), hend]
    exact zi_t rfl (zwi hg)
  · intro g hg
    have h1 := hok.2.1 h0
    have hlen := rRun_len (vals := vals) hok (Nat.le_refl n)
    rw [h1] at hlen
    unfold rVal
    cases hr : rRun vals cc n with
    | nil => rw [hr] at hlen; simp at hlen
    | cons x r =>
      rw [hr] at hlen hg
      have hr0 : r.length = 0 := by simpa using hlen
      have ha : g 0 = x := by have := hg.1; rw [hr0] at this; exact this
      exact zwi ha
