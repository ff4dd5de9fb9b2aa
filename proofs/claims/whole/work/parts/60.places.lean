/-! YEARS: fewer places than figures -/
def newF (cell : Nat → Int32) (f : Nat) : Bool := !anyB (fun g => cell g == cell f) f
def plN (cell : Nat → Int32) (F : Nat) : Nat := fb_ct (fun j => anyB (fun f => cell f == nI j) F) 36
theorem plN_new {cell : Nat → Int32} : ∀ {F : Nat}, (∀ f, f < F → ∃ c, cell f = nI c ∧ c < 36) → plN cell F = fb_ct (newF cell) F
  | 0, _ => fb_ct_zero.mpr (fun _ _ => rfl)
  | F + 1, h => by
    have ih := plN_new (cell := cell) (F := F) (fun f hf => h f (by omega))
    obtain ⟨c, h1, h2⟩ := h F (by omega)
    have e := fb_ct_upd (fun j => anyB (fun f => cell f == nI j) F) true (i := c) (n := 36) h2
    have e2 : plN cell (F + 1) = fb_ct (fun k => if k = c then true else anyB (fun f => cell f == nI k) F) 36 := by
      unfold plN
      refine fb_ct_cong (fun k hk => ?_)
      rw [anyB_s, h1]
      by_cases q : k = c
      · rw [if_pos q, q, beq_self_eq_true, Bool.or_true]
      · rw [if_neg q, show (nI c == nI k) = false from beq_false_of_ne (nI_ne (by omega) (by omega) (fun e => q e.symm)), Bool.or_false]
    rw [e2, show fb_ct (newF cell) (F + 1) = fb_ct (newF cell) F + (if newF cell F then 1 else 0) from rfl, ← ih]
    unfold plN
    have e3 : newF cell F = !anyB (fun f => cell f == nI c) F := by unfold newF; rw [h1]
    rw [e3]
    cases hq : anyB (fun f => cell f == nI c) F with
    | true => rw [hq] at e; simp at e ⊢; omega
    | false => rw [hq] at e; simp at e ⊢; omega
theorem anyB_iff {p : Nat → Bool} : ∀ {n : Nat}, anyB p n = true ↔ ∃ k, k < n ∧ p k = true
  | 0 => ⟨fun h => (by cases h), fun ⟨k, h, _⟩ => by omega⟩
  | n + 1 => by
    rw [anyB_s, Bool.or_eq_true, anyB_iff]
    constructor
    · rintro (⟨k, h1, h2⟩ | h)
      · exact ⟨k, by omega, h2⟩
      · exact ⟨n, by omega, h⟩
    · rintro ⟨k, h1, h2⟩
      by_cases q : k = n
      · subst q; exact .inr h2
      · exact .inl ⟨k, by omega, h2⟩
/-- fewer places than figures: someone is with someone -/
theorem plN_lt {cell : Nat → Int32} {F : Nat} (h : ∀ f, f < F → ∃ c, cell f = nI c ∧ c < 36) : plN cell F < F ↔ ∃ f, f < F ∧ 0 < sWith F cell f := by
  rw [plN_new h]
  have hle := fb_ct_le (newF cell) F
  constructor
  · intro hlt
    have : ¬ ∀ k, k < F → newF cell k = true := fun e => by have := fb_ct_all.mpr e; omega
    have ⟨f, hf, hn⟩ : ∃ f, f < F ∧ newF cell f = false := by
      refine Classical.byContradiction (fun hno => this (fun k hk => ?_))
      cases hq : newF cell k with
      | true => rfl
      | false => exact absurd ⟨k, hk, hq⟩ hno
    have ha : anyB (fun g => cell g == cell f) f = true := by unfold newF at hn; simpa using hn
    obtain ⟨g, hg, he⟩ := anyB_iff.mp ha
    refine ⟨f, hf, ?_⟩
    unfold sWith
    have m1 := fb_ct_mono (fun g => cell g == cell f) (show g + 1 ≤ f by omega)
    have m2 := fb_ct_mono (fun g => cell g == cell f) (show f + 1 ≤ F by omega)
    rw [fb_ct_succ, if_pos he] at m1
    rw [fb_ct_succ, if_pos (beq_self_eq_true _)] at m2
    omega
  · rintro ⟨f, hf, hs⟩
    refine Nat.lt_of_le_of_ne hle (fun e => ?_)
    have hall := fb_ct_all.mp e
    have huniq : ∀ g, g < F → (cell g == cell f) = true → g = f := by
      intro g hg he
      have he' : cell g = cell f := eq_of_beq he
      have key : ∀ a b, a < b → b < F → cell a = cell b → False := by
        intro a b hab hb hc
        have := hall b hb
        unfold newF at this
        rw [anyB_iff.mpr ⟨a, hab, by rw [hc]; exact beq_self_eq_true _⟩] at this
        cases this
      by_cases q : g < f
      · exact (key g f q hf he').elim
      · by_cases q2 : f < g
        · exact (key f g q2 hg he'.symm).elim
        · omega
    have u := fb_ct_upd (fun _ => false) true (i := f) (n := F) hf
    have z : fb_ct (fun _ => false) F = 0 := fb_ct_zero.mpr (fun _ _ => rfl)
    have le := fb_ct_sub (p := fun g => cell g == cell f) (q := fun k => if k = f then true else false) (n := F) (fun k hk hp => if_pos (huniq k hk hp))
    unfold sWith at hs
    simp at u
    rw [z] at u
    simp at le
    omega
