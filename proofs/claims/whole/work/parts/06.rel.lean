theorem pm_gi_e {ls : pL} {i : Nat} {f : Int32 → Prop} (h : pm_gi ls i f) : ∃ x, pm_get ls i = some (.int x) ∧ f x := by
  unfold pm_gi at h; split at h
  · exact ⟨_, ‹_›, h⟩
  · exact h.elim
theorem pm_gl_e {ls : pL} {i : Nat} {f : Int64 → Prop} (h : pm_gl ls i f) : ∃ x, pm_get ls i = some (.long x) ∧ f x := by
  unfold pm_gl at h; split at h
  · exact ⟨_, ‹_›, h⟩
  · exact h.elim
theorem pm_ga_e {ls : pL} {i : Nat} {f : Value → Prop} (h : pm_ga ls i f) : ∃ v, pm_get ls i = some v ∧ pm_isr v = true ∧ f v := by
  unfold pm_ga at h; split at h
  · exact ⟨_, ‹_›, h.1, h.2⟩
  · exact h.elim
theorem pm_i_e {st : List Value} {f : Int32 → List Value → Prop} (h : pm_i st f) : ∃ x r, st = .int x :: r ∧ f x r := by
  unfold pm_i at h; split at h
  · exact ⟨_, _, rfl, h⟩
  · exact h.elim
theorem pm_l_e {st : List Value} {f : Int64 → List Value → Prop} (h : pm_l st f) : ∃ x r, st = .long x :: r ∧ f x r := by
  unfold pm_l at h; split at h
  · exact ⟨_, _, rfl, h⟩
  · exact h.elim
theorem pm_ii_e {st : List Value} {f : Int32 → Int32 → List Value → Prop} (h : pm_ii st f) : ∃ x y r, st = .int y :: .int x :: r ∧ f x y r := by
  unfold pm_ii at h; split at h
  · exact ⟨_, _, _, rfl, h⟩
  · exact h.elim
theorem pm_ll_e {st : List Value} {f : Int64 → Int64 → List Value → Prop} (h : pm_ll st f) : ∃ x y r, st = .long y :: .long x :: r ∧ f x y r := by
  unfold pm_ll at h; split at h
  · exact ⟨_, _, _, rfl, h⟩
  · exact h.elim
theorem pm_li_e {st : List Value} {f : Int64 → Int32 → List Value → Prop} (h : pm_li st f) : ∃ x y r, st = .int y :: .long x :: r ∧ f x y r := by
  unfold pm_li at h; split at h
  · exact ⟨_, _, _, rfl, h⟩
  · exact h.elim
theorem pm_a_e {st : List Value} {f : Value → List Value → Prop} (h : pm_a st f) : ∃ v r, st = v :: r ∧ pm_isr v = true ∧ f v r := by
  unfold pm_a at h; split at h
  · exact ⟨_, _, rfl, h.1, h.2⟩
  · exact h.elim
theorem pm_r_e {st : List Value} {f : Nat → List Value → Prop} (h : pm_r st f) : ∃ a r, st = .ref a :: r ∧ f a r := by
  unfold pm_r at h; split at h
  · exact ⟨_, _, rfl, h⟩
  · exact h.elim
theorem pm_vr_e {st : List Value} {f : Value → Nat → List Value → Prop} (h : pm_vr st f) : ∃ v a r, st = v :: .ref a :: r ∧ f v a r := by
  unfold pm_vr at h; split at h
  · exact ⟨_, _, _, rfl, h⟩
  · exact h.elim
theorem pm_ir_e {st : List Value} {f : Int32 → Nat → List Value → Prop} (h : pm_ir st f) : ∃ i a r, st = .int i :: .ref a :: r ∧ f i a r := by
  unfold pm_ir at h; split at h
  · exact ⟨_, _, _, rfl, h⟩
  · exact h.elim
theorem pm_iir_e {st : List Value} {f : Int32 → Int32 → Nat → List Value → Prop} (h : pm_iir st f) : ∃ x i a r, st = .int x :: .int i :: .ref a :: r ∧ f x i a r := by
  unfold pm_iir at h; split at h
  · exact ⟨_, _, _, _, rfl, h⟩
  · exact h.elim
theorem pm_lir_e {st : List Value} {f : Int64 → Int32 → Nat → List Value → Prop} (h : pm_lir st f) : ∃ x i a r, st = .long x :: .int i :: .ref a :: r ∧ f x i a r := by
  unfold pm_lir at h; split at h
  · exact ⟨_, _, _, _, rfl, h⟩
  · exact h.elim
theorem pm_o_e {α : Type} {o : Option α} {f : α → Prop} (h : pm_o o f) : ∃ x, o = some x ∧ f x := by
  unfold pm_o at h; split at h
  · exact ⟨_, rfl, h⟩
  · exact h.elim
theorem pm_ob_e {S : pS} {a ci : Nat} {f : List Value → Prop} (h : pm_ob S a ci f) : a < S.1 ∧ ∃ fs, S.2 a = .inr (ci, fs) ∧ f fs := by
  obtain ⟨h1, h2⟩ := h
  refine ⟨h1, ?_⟩
  revert h2; split
  · rintro ⟨rfl, h3⟩; exact ⟨_, ‹_›, h3⟩
  · exact False.elim
theorem pm_ar_e {S : pS} {a kd : Nat} {f : Nat → (Nat → Int32) → Prop} (h : pm_ar S a kd f) : a < S.1 ∧ ∃ n g, S.2 a = .inl (kd, n, .inl g) ∧ f n g := by
  obtain ⟨h1, h2⟩ := h
  refine ⟨h1, ?_⟩
  revert h2; split
  · rintro ⟨rfl, h3⟩; exact ⟨_, _, ‹_›, h3⟩
  · exact False.elim
theorem pm_aj_e {S : pS} {a : Nat} {f : Nat → (Nat → Int64) → Prop} (h : pm_aj S a f) : a < S.1 ∧ ∃ n g, S.2 a = .inl (1, n, .inr g) ∧ f n g := by
  obtain ⟨h1, h2⟩ := h
  refine ⟨h1, ?_⟩
  revert h2; split
  · rintro ⟨rfl, h3⟩; exact ⟨_, _, ‹_›, h3⟩
  · exact False.elim
theorem pm_an_e {S : pS} {a : Nat} {f : Nat → Prop} (h : pm_an S a f) : a < S.1 ∧ ∃ n, ((∃ k g, S.2 a = .inl (k, n, .inl g) ∧ k < 4) ∨ ∃ g, S.2 a = .inl (1, n, .inr g)) ∧ f n := by
  obtain ⟨h1, h2⟩ := h
  refine ⟨h1, ?_⟩
  revert h2; split
  · rintro ⟨h2, -, h3⟩; exact ⟨_, Or.inl ⟨_, _, ‹_›, h2⟩, h3⟩
  · rintro ⟨rfl, h3⟩; exact ⟨_, Or.inr ⟨_, ‹_›⟩, h3⟩
  · exact False.elim
theorem pm_ia_e {C : pC} {S : pS} {st : List Value} {f : Int32 → List Value → Prop} (h : pm_ia C S st f) : (∃ i a r n g, st = .int i :: .ref a :: r ∧ a < S.1 ∧ S.2 a = .inl (0, n, .inl g) ∧ ¬ (i < 0 ∨ n ≤ i.toNatClampNeg) ∧ f (g i.toNatClampNeg) r) ∨ (∃ i r L xs, st = .int i :: .retAddr 1000 :: r ∧ pc_sc C = some (L, xs) ∧ ¬ (i < 0 ∨ L ≤ i.toNatClampNeg) ∧ f (xs i.toNatClampNeg) r) := by
  unfold pm_ia at h; split at h
  · obtain ⟨h1, n, g, h2, h3, h4⟩ := pm_ar_e h
    exact Or.inl ⟨_, _, _, n, g, rfl, h1, h2, h3, h4⟩
  · obtain ⟨rfl, h⟩ := h
    obtain ⟨⟨L, xs⟩, h1, h2, h3⟩ := pm_o_e h
    exact Or.inr ⟨_, _, L, xs, rfl, h1, h2, h3⟩
  · exact h.elim
theorem pm_al_e {C : pC} {S : pS} {st : List Value} {f : Nat → List Value → Prop} (h : pm_al C S st f) : (∃ a r, st = .ref a :: r ∧ pm_an S a (fun n => f n r)) ∨ (∃ r L xs, st = .retAddr 1000 :: r ∧ pc_sc C = some (L, xs) ∧ f L r) := by
  unfold pm_al at h; split at h
  · exact Or.inl ⟨_, _, rfl, h⟩
  · obtain ⟨rfl, h⟩ := h
    obtain ⟨⟨L, xs⟩, h1, h2⟩ := pm_o_e h
    exact Or.inr ⟨_, L, xs, rfl, h1, h2⟩
  · exact h.elim
theorem pm_dup_e {st : List Value} {f : Value → List Value → Prop} (h : pm_dup st f) : ∃ v r, st = v :: r ∧ v.category = 1 ∧ f v r := by
  unfold pm_dup at h; split at h
  · exact ⟨_, _, rfl, h.1, h.2⟩
  · exact h.elim
theorem pm_dup2_e {st : List Value} {f : Value → Value → List Value → Prop} (h : pm_dup2 st f) : ∃ v w r, st = v :: w :: r ∧ v.category = 1 ∧ w.category = 1 ∧ f v w r := by
  unfold pm_dup2 at h; split at h
  · exact ⟨_, _, _, rfl, h.1, h.2.1, h.2.2⟩
  · exact h.elim
theorem pm_kl_e {o : Option Value} {f : Int64 → Prop} (h : pm_kl o f) : ∃ x, o = some (.long x) ∧ f x := by
  unfold pm_kl at h; split at h
  · exact ⟨_, rfl, h⟩
  · exact h.elim
theorem pm_ki_e {o : Option Value} {f : Value → Prop} (h : pm_ki o f) : (∃ x, o = some (.int x) ∧ f (.int x)) ∨ ∃ x, o = some (.retAddr x) ∧ f (.retAddr x) := by
  unfold pm_ki at h; split at h
  · exact Or.inl ⟨_, rfl, h⟩
  · exact Or.inr ⟨_, rfl, h⟩
  · exact h.elim
theorem pm_v_cat (n0 : Nat) (sa : Nat → Nat) (v : Value) : (pm_v n0 sa v).category = v.category := by cases v <;> rfl
theorem pm_v_isr {n0 : Nat} {sa : Nat → Nat} {v : Value} (h : pm_isr v = true) : ∃ a, pm_v n0 sa v = .ref a := by
  cases v <;> first | exact ⟨_, rfl⟩ | (simp [pm_isr] at h)
theorem pm_w_get {n0 : Nat} {sa : Nat → Nat} {ck : Nat → ClassId} {S : pS} {i : Nat} (h : i < S.1) : (pm_w n0 sa ck S)[i]? = some (n0 + i, pm_e n0 sa ck (S.2 i)) := by
  simp [pm_w, List.getElem?_range h]
theorem pm_w_len {n0 : Nat} {sa : Nat → Nat} {ck : Nat → ClassId} {S : pS} : (pm_w n0 sa ck S).length = S.1 := by simp [pm_w]
theorem pm_w_set {n0 : Nat} {sa : Nat → Nat} {ck : Nat → ClassId} {S : pS} {i : Nat} (e : pE) : (pm_w n0 sa ck S).set i (n0 + i, pm_e n0 sa ck e) = pm_w n0 sa ck (pm_up S i e) := by
  apply List.ext_getElem?
  intro j
  by_cases hj : j < S.1
  · by_cases hi : j = i
    · subst hi
      rw [List.getElem?_set_self (by rw [pm_w_len]; exact hj), pm_w_get (S := pm_up S j e) hj]
      simp [pm_up, va_up]
    · rw [List.getElem?_set_ne (fun q => hi q.symm), pm_w_get hj, pm_w_get (S := pm_up S i e) hj]
      simp [pm_up, va_up, hi]
  · rw [List.getElem?_eq_none (by rw [List.length_set, pm_w_len]; omega), List.getElem?_eq_none (by rw [pm_w_len]; exact Nat.not_lt.mp hj)]
theorem pm_w_push {n0 : Nat} {sa : Nat → Nat} {ck : Nat → ClassId} {S : pS} (e : pE) : pm_w n0 sa ck S ++ [(n0 + S.1, pm_e n0 sa ck e)] = pm_w n0 sa ck (S.1 + 1, va_up S.2 S.1 e) := by
  unfold pm_w
  rw [show (S.1 + 1, va_up S.2 S.1 e).1 = S.1 + 1 from rfl, List.range_succ, List.map_append]
  congr 1
  · apply List.map_congr_left
    intro i hi
    have : i ≠ S.1 := fun q => by rw [q] at hi; simp at hi
    simp [va_up, this]
  · simp [va_up]
theorem pm_w_D {n0 : Nat} {sa : Nat → Nat} {ck : Nat → ClassId} {S : pS} : va_D (fun q => n0 ≤ q) (pm_w n0 sa ck S) := by
  have key : ∀ (k : Nat) (q : Nat × va_E), (pm_w n0 sa ck S)[k]? = some q → q.1 = n0 + k := by
    intro k q h
    have hk : k < S.1 := by
      have := (List.getElem?_eq_some_iff.mp h).1
      rwa [pm_w_len] at this
    rw [pm_w_get hk] at h
    cases h
    rfl
  refine ⟨fun i j p q hi hj h => ?_, fun k q h => ?_⟩
  · rw [key i p hi, key j q hj] at h
    omega
  · rw [key k q h]
    exact Nat.le_add_right _ _
def pm_lr (n0 : Nat) (sa : Nat → Nat) (lsA : Array Slot) (nL : Nat) (ls : pL) : Prop := ls.length = nL ∧ lsA.size = nL ∧ lv_wf lsA ∧ ∀ i v, pm_get ls i = some v → lsA[i]? = some (.val (pm_v n0 sa v))
def pm_lp (n0 : Nat) (sa : Nat → Nat) (nL : Nat) (ls : pL) : List (Nat × Value) := (List.range nL).filterMap (fun i => (pm_get ls i).map (fun v => (i, pm_v n0 sa v)))
theorem pm_lp_mem {n0 : Nat} {sa : Nat → Nat} {nL : Nat} {ls : pL} {i : Nat} {v : Value} (hl : ls.length = nL) (h : pm_get ls i = some v) : (i, pm_v n0 sa v) ∈ pm_lp n0 sa nL ls := by
  unfold pm_lp
  refine List.mem_filterMap.mpr ⟨i, ?_, by rw [h]; rfl⟩
  rw [List.mem_range]
  unfold pm_get at h
  cases hi : ls[i]? with
  | none => rw [hi] at h; cases h
  | some o => rw [← hl]; exact (List.getElem?_eq_some_iff.mp hi).1
theorem pm_lr_has {n0 : Nat} {sa : Nat → Nat} {lsA : Array Slot} {nL : Nat} {ls : pL} (h : pm_lr n0 sa lsA nL ls) : lv_has lsA nL (pm_lp n0 sa nL ls) := by
  obtain ⟨h1, h2, h3, h4⟩ := h
  refine ⟨h2, h3, fun q hq => ?_⟩
  obtain ⟨i, -, hi⟩ := List.mem_filterMap.mp hq
  cases hg : pm_get ls i with
  | none => rw [hg] at hi; cases hi
  | some v => rw [hg] at hi; cases hi; exact h4 i v hg
theorem pm_get_set (ls : pL) (j : Nat) (x : Option Value) (i : Nat) : pm_get (ls.set j x) i = if j = i then (if j < ls.length then x else none) else pm_get ls i := by
  unfold pm_get
  by_cases h : j = i
  · subst h
    by_cases hl : j < ls.length
    · rw [List.getElem?_set_self hl, if_pos rfl, if_pos hl]; rfl
    · rw [List.getElem?_eq_none (by rw [List.length_set]; omega), if_pos rfl, if_neg hl]; rfl
  · rw [List.getElem?_set_ne h, if_neg h]
theorem pm_clr_len (ls : pL) (i : Nat) : (pm_clr ls i).length = ls.length := by
  unfold pm_clr
  split
  · rfl
  · split
    · split
      · rw [List.length_set]
      · rfl
    · rfl
theorem pm_set_len (ls : pL) (i : Nat) (v : Value) : (pm_set ls i v).length = ls.length := by
  unfold pm_set
  split
  · rw [List.length_set, List.length_set, pm_clr_len]
  · rw [List.length_set, pm_clr_len]
theorem pm_get_clr {ls : pL} {i j : Nat} {w : Value} (h : pm_get (pm_clr ls i) j = some w) : pm_get ls j = some w ∧ (j + 1 = i → w.category ≠ 2) := by
  unfold pm_clr at h
  split at h
  · exact ⟨h, fun q => by omega⟩
  · rename_i k
    split at h
    · rename_i u hu
      split at h
      · rw [pm_get_set] at h
        by_cases hk : k = j
        · rw [if_pos hk] at h
          split at h <;> cases h
        · rw [if_neg hk] at h
          exact ⟨h, fun q => by omega⟩
      · rename_i hc
        refine ⟨h, fun q => ?_⟩
        have hkj : k = j := by omega
        subst hkj
        rw [hu] at h
        cases h
        exact hc
    · rename_i hu
      refine ⟨h, fun q => ?_⟩
      have hkj : k = j := by omega
      subst hkj
      rw [hu] at h
      cases h
theorem pm_lr_set1 {n0 : Nat} {sa : Nat → Nat} {lsA : Array Slot} {nL : Nat} {ls : pL} {i : Nat} {v : Value} (hc : v.category = 1) (hl : ls.length = nL) (h : lv_has lsA nL ((i, pm_v n0 sa v) :: (pm_lp n0 sa nL ls).filter (fun q => !(q.1 == i) && !(q.1 + 1 == i && q.2.category == 2)))) : pm_lr n0 sa lsA nL (pm_set ls i v) := by
  refine ⟨by rw [pm_set_len, hl], h.1, h.2.1, fun j w hj => ?_⟩
  unfold pm_set at hj
  rw [if_neg (by omega), pm_get_set] at hj
  by_cases hij : i = j
  · subst hij
    rw [if_pos rfl] at hj
    split at hj
    · cases hj
      exact h.2.2 (i, _) List.mem_cons_self
    · cases hj
  · rw [if_neg hij] at hj
    obtain ⟨h1, h2⟩ := pm_get_clr hj
    refine h.2.2 (j, pm_v n0 sa w) (List.mem_cons_of_mem _ (List.mem_filter.mpr ⟨pm_lp_mem hl h1, ?_⟩))
    have e1 : (j == i) = false := by simp; omega
    simp only [e1, pm_v_cat, Bool.not_false, Bool.true_and, Bool.not_eq_true', Bool.and_eq_false_iff, beq_eq_false_iff_ne]
    by_cases hji : j + 1 = i
    · exact Or.inr (h2 hji)
    · exact Or.inl hji
theorem pm_lr_set2 {n0 : Nat} {sa : Nat → Nat} {lsA : Array Slot} {nL : Nat} {ls : pL} {i : Nat} {v : Value} (hc : v.category = 2) (hl : ls.length = nL) (h : lv_has lsA nL ((i, pm_v n0 sa v) :: (pm_lp n0 sa nL ls).filter (fun q => !(q.1 == i) && (!(q.1 == i + 1) && !(q.1 + 1 == i && q.2.category == 2))))) : pm_lr n0 sa lsA nL (pm_set ls i v) := by
  refine ⟨by rw [pm_set_len, hl], h.1, h.2.1, fun j w hj => ?_⟩
  unfold pm_set at hj
  rw [if_pos hc, pm_get_set] at hj
  by_cases hij1 : i + 1 = j
  · rw [if_pos hij1] at hj
    split at hj <;> cases hj
  · rw [if_neg hij1, pm_get_set] at hj
    by_cases hij : i = j
    · subst hij
      rw [if_pos rfl] at hj
      split at hj
      · cases hj
        exact h.2.2 (i, _) List.mem_cons_self
      · cases hj
    · rw [if_neg hij] at hj
      obtain ⟨h1, h2⟩ := pm_get_clr hj
      refine h.2.2 (j, pm_v n0 sa w) (List.mem_cons_of_mem _ (List.mem_filter.mpr ⟨pm_lp_mem hl h1, ?_⟩))
      have e1 : (j == i) = false := by simp; omega
      have e2 : (j == i + 1) = false := by simp; omega
      simp only [e1, e2, pm_v_cat, Bool.not_false, Bool.true_and, Bool.not_eq_true', Bool.and_eq_false_iff, beq_eq_false_iff_ne]
      by_cases hji : j + 1 = i
      · exact Or.inr (h2 hji)
      · exact Or.inl hji
theorem pm_fit_ok {n0 : Nat} {sa : Nat → Nat} {ty : FieldType} {v : Value} (h : pm_fit ty v = true) : narrow ty (pm_v n0 sa v) = pm_v n0 sa v ∧ fits ty (pm_v n0 sa v) = true := by
  unfold pm_fit at h
  split at h
  · exact ⟨rfl, rfl⟩
  · exact ⟨rfl, rfl⟩
  · rename_i x
    rcases (by simpa using h : x = 0 ∨ x = 1) with rfl | rfl <;> exact ⟨rfl, rfl⟩
  · exact ⟨rfl, rfl⟩
  · exact ⟨rfl, rfl⟩
  · cases h
