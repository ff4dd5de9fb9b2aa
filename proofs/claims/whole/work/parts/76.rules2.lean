/-! READING RULES: what holds all along -/
theorem tK_pos {b : Nat → Int32} {n p : Nat} (h : ¬ tK b n p = 0) : p < n := by
  refine Classical.byContradiction (fun q => h ?_)
  unfold tK
  rw [if_neg q]
theorem nx_ok {b : Nat → Int32} {n p : Nat} (h : p < n) : p < nxP b n p ∧ nxP b n p ≤ n := by
  obtain ⟨e1, e2, e3⟩ := tE_le (b := b) (n := n) (p := p) (by omega)
  have e4 := e3 h
  obtain ⟨e5, e6⟩ := tP_le (b := b) (n := n) (e := tE b n p) e2
  exact ⟨by show p < tP b n (tE b n p); omega, e6⟩
theorem sg_pos {b : Nat → Int32} {n p : Nat} {c : Int32} (h : sgI b n p c = true) : tK b n p = 3 ∧ p < n ∧ b p = c := by
  unfold sgI at h
  rw [Bool.and_eq_true, decide_eq_true_iff] at h
  exact ⟨h.1, tK_pos (b := b) (by omega), eq_of_beq h.2⟩
theorem tw_pos {b : Nat → Int32} {n p k : Nat} (h : tw b n p k = true) : tK b n p = 1 := by
  unfold tw at h
  rw [Bool.and_eq_true, decide_eq_true_iff] at h
  exact h.1
theorem isDg_b {c : Int32} (h : isDg c = true) : ∃ x, x ≤ 9 ∧ c = nI (48 + x) := by
  unfold isDg at h
  rw [Bool.and_eq_true, Bool.not_eq_true', Bool.not_eq_true', decide_eq_false_iff_not, decide_eq_false_iff_not] at h
  obtain ⟨h1, h2⟩ := h
  rw [fa_lt] at h1 h2
  have e1 : (48 : Int32).toInt = 48 := by decide
  have e2 : (57 : Int32).toInt = 57 := by decide
  refine ⟨c.toInt.toNat - 48, by omega, ?_⟩
  rw [fa_eq, nI_toInt (by omega)]
  omega
theorem nv_n {b : Nat → Int32} {p : Nat} : ∀ k, k ≤ 4 → (∀ i, i < k → isDg (b (p + i)) = true) → ∃ v, v < 10 ^ k ∧ nvI b p k = nI v
  | 0, _, _ => ⟨0, by decide, rfl⟩
  | k + 1, hk, h => by
    obtain ⟨v, v1, v2⟩ := nv_n (b := b) (p := p) k (by omega) (fun i hi => h i (by omega))
    obtain ⟨x, x1, x2⟩ := isDg_b (h k (by omega))
    refine ⟨v * 10 + x, by rw [Nat.pow_succ]; omega, ?_⟩
    show nvI b p k * 10 + (b (p + k) - 48) = _
    rw [v2, x2, show (48 : Int32) = nI 48 from rfl, pk_sub (by omega), show (10 : Int32) = nI 10 from rfl, pk_mul, nI_add, show 48 + x - 48 = x by omega]
theorem tok_num {b : Nat → Int32} {n p : Nat} (hp : p ≤ n) (h : tK b n p = 2) (h4 : tE b n p - p ≤ 4) : ∃ v, v ≤ 9999 ∧ nvI b p (tE b n p - p) = nI v := by
  have hpn := tK_pos (b := b) (n := n) (p := p) (by omega)
  have hd : ∀ i, i < tE b n p - p → isDg (b (p + i)) = true := by
    intro i hi
    unfold tK at h
    unfold tE at hi
    rw [if_pos hpn] at h hi
    cases hl : isLt (b p) with
    | true => rw [hl, if_pos rfl] at h; omega
    | false =>
      rw [hl, if_neg (by decide)] at h hi
      cases hd : isDg (b p) with
      | true =>
        rw [hd, if_pos rfl] at hi
        exact scan_in (q := fun j => isDg (b j)) (n := n) (p := p) hp (by omega) (by omega)
      | false =>
        rw [hd, if_neg (by decide)] at h
        exfalso
        revert h
        split <;> omega
  obtain ⟨v, v1, v2⟩ := nv_n (tE b n p - p) h4 hd
  have : (10 : Nat) ^ (tE b n p - p) ≤ 10 ^ 4 := Nat.pow_le_pow_right (by decide) h4
  exact ⟨v, by omega, v2⟩
theorem opO_cs {b : Nat → Int32} {n p : Nat} : opO b n p = -1 ∨ (isOp (opO b n p) ∧ ¬ opO b n p = -13 ∧ p < n) := by
  unfold opO
  by_cases h1 : tw b n p 14 = true
  · rw [if_pos h1]
    exact .inr ⟨.inl rfl, by decide, tK_pos (by rw [tw_pos h1]; decide)⟩
  rw [if_neg h1]
  by_cases h2 : tw b n p 13 = true
  · rw [if_pos h2]
    exact .inr ⟨.inr (.inl rfl), by decide, tK_pos (by rw [tw_pos h2]; decide)⟩
  rw [if_neg h2]
  by_cases h3 : tK b n p = 3
  · rw [if_pos h3]
    have hp : p < n := tK_pos (b := b) (by omega)
    unfold isOp
    repeat' split
    all_goals first
      | exact .inl rfl
      | exact .inr ⟨by simp, by decide, hp⟩
  · rw [if_neg h3]; exact .inl rfl
theorem vlO_cs {b : Nat → Int32} {n p : Nat} {oh : Bool} : vlO b n p oh = -1 ∨ ∃ j, j < 6 ∧ vlO b n p oh = nI j ∧ tw b n p (trv j) = true ∧ (j = 4 → oh = false) ∧ (j = 5 → oh = true) := by
  unfold vlO
  by_cases h : tw b n p 1 = true
  · rw [if_pos h]; exact .inr ⟨0, by decide, rfl, h, fun q => by omega, fun q => by omega⟩
  rw [if_neg h]
  by_cases h : tw b n p 2 = true
  · rw [if_pos h]; exact .inr ⟨1, by decide, rfl, h, fun q => by omega, fun q => by omega⟩
  rw [if_neg h]
  by_cases h : tw b n p 3 = true
  · rw [if_pos h]; exact .inr ⟨2, by decide, rfl, h, fun q => by omega, fun q => by omega⟩
  rw [if_neg h]
  by_cases h : tw b n p 4 = true
  · rw [if_pos h]; exact .inr ⟨3, by decide, rfl, h, fun q => by omega, fun q => by omega⟩
  rw [if_neg h]
  by_cases h : (!oh && tw b n p 0) = true
  · rw [if_pos h]
    rw [Bool.and_eq_true, Bool.not_eq_true'] at h
    exact .inr ⟨4, by decide, rfl, h.2, fun _ => h.1, fun q => by omega⟩
  rw [if_neg h]
  by_cases h : (oh && tw b n p 5) = true
  · rw [if_pos h]
    rw [Bool.and_eq_true] at h
    exact .inr ⟨5, by decide, rfl, h.2, fun q => by omega, fun _ => h.1⟩
  rw [if_neg h]
  exact .inl rfl
theorem vl_neg : ∀ j, j < 6 → ¬ ((-1 : Int32) - nI j) < -6 := by decide +kernel
def AI (n : Nat) (s : RS) : Prop := ∃ r j, chk s.2.2.2.2.1 = some (s.2.2.2.1, r, j) ∧ s.2.2.2.1 ≤ 6 ∧ s.2.2.1 ≤ 6 ∧ s.2.2.2.2.2.2 ≤ n ∧ s.2.2.2.2.2.1.length + s.2.2.2.2.1.length ≤ s.2.2.2.2.2.2 ∧ okL s.2.2.2.2.2.1 ∧ dep s.2.2.2.2.2.1 = bins s.2.2.2.2.1 + (if s.1 then 0 else 1) ∧ (s.1 = true → s.2.1 = true → (s.2.2.1 = 0 ∧ r ≤ 2) ∨ (r = 3 ∧ j = s.2.2.1)) ∧ (∀ x, x ∈ s.2.2.2.2.2.1 → isOp x ∨ ¬ x < -6)
theorem okL_num {x : Int32} {o : List Int32} (h : okL o) (hx : ¬ x < -6) (hd : dep o < 48) : okL (x :: o) ∧ dep (x :: o) = dep o + 1 := ⟨⟨h, fun q => absurd q hx, fun _ => hd⟩, if_neg hx⟩
theorem aNx_ok {b : Nat → Int32} {n : Nat} {oh : Bool} {s s' : RS} (h : AI n s) (e : aNx b n oh s = .inl s') : AI n s' ∧ s.2.2.2.2.2.2 < s'.2.2.2.2.2.2 := by
  obtain ⟨due, bn, nots, dp, st, out, p⟩ := s
  obtain ⟨r, j, c1, c2, c3, c4, c5, c6, c7, c8, c9⟩ := h
  dsimp only at c1 c2 c3 c4 c5 c6 c7 c8 c9
  obtain ⟨l1, l2, l3, l4, l5, l6⟩ := chk_len c1
  unfold aNx at e
  dsimp only at e ⊢
  cases due with
  | true =>
    rw [if_pos rfl] at e
    rw [if_pos rfl] at c7
    unfold aPart at e
    dsimp only at e
    by_cases h1 : sgI b n p 40 = true
    · rw [if_pos h1] at e
      have hp := (sg_pos h1).2.1
      have hx := nx_ok (b := b) hp
      by_cases h2 : dp < 6
      · rw [if_pos h2] at e
        injection e with e
        subst e
        refine ⟨⟨0, 0, chk_open c1, by show dp + 1 ≤ 6; omega, Nat.zero_le _, hx.2, ?_, c6, ?_, fun _ _ => .inl ⟨rfl, by decide⟩, c9⟩, hx.1⟩
        · show out.length + (st.length + 1) ≤ nxP b n p
          omega
        · show dep out = bins (-20 :: st) + 0
          rw [show bins (-20 :: st) = bins st from if_pos (.inl rfl)]; exact c7
      · rw [if_neg h2] at e; cases e
    rw [if_neg h1] at e
    have hbn : bnR r ≤ 5 := by unfold bnR; split <;> omega
    by_cases h2 : tK b n p = 2
    · rw [if_pos h2] at e
      have hx := nx_ok (b := b) (tK_pos (b := b) (n := n) (p := p) (by omega))
      by_cases h3 : dp < 6
      · rw [if_pos h3] at e
        by_cases h4 : tE b n p - p ≤ 4
        · rw [if_pos h4] at e
          injection e with e
          subst e
          obtain ⟨v, v1, v2⟩ := tok_num c4 h2 h4
          have hv : ¬ nvI b p (tE b n p - p) < -6 := by
            rw [v2]
            exact fun q => nI_pos (n := v) (by omega) (Int32.lt_trans q (by decide))
          have hk := okL_num c6 hv (by omega)
          refine ⟨⟨r, j, c1, c2, c3, hx.2, ?_, hk.1, ?_, (fun q => by cases q), ?_⟩, hx.1⟩
          · show out.length + 1 + st.length ≤ nxP b n p
            omega
          · show dep _ = bins st + 1
            rw [hk.2, c7]
          · intro x hxm
            rcases List.mem_cons.mp hxm with hxm | hxm
            · rw [hxm]; exact .inr hv
            · exact c9 x hxm
        · rw [if_neg h4] at e; cases e
      · rw [if_neg h3] at e; cases e
    rw [if_neg h2] at e
    by_cases h3 : tK b n p = 1
    · rw [if_pos h3] at e
      have hx := nx_ok (b := b) (tK_pos (b := b) (n := n) (p := p) (by omega))
      by_cases h4 : dp < 6
      · rw [if_pos h4] at e
        by_cases h5 : (bn && tw b n p 15) = true
        · rw [if_pos h5] at e
          by_cases h6 : nots < 6
          · rw [if_pos h6] at e
            injection e with e
            subst e
            have hb : bn = true := by rw [Bool.and_eq_true] at h5; exact h5.1
            have h8 := c8 rfl hb
            have hrj : r ≤ 3 ∧ j = nots := by
              rcases h8 with ⟨a1, a2⟩ | ⟨a1, a2⟩
              · exact ⟨by omega, by rw [a1]; exact l4 (by omega)⟩
              · exact ⟨by omega, a2⟩
            refine ⟨⟨3, j + 1, chk_not c1 hrj.1 (by omega), c2, by show nots + 1 ≤ 6; omega, hx.2, ?_, c6, ?_, fun _ _ => .inr ⟨rfl, by show j + 1 = nots + 1; omega⟩, c9⟩, hx.1⟩
            · show out.length + (st.length + 1) ≤ nxP b n p
              omega
            · show dep out = bins (-13 :: st) + 0
              rw [show bins (-13 :: st) = bins st from if_pos (.inr rfl)]; exact c7
          · rw [if_neg h6] at e; cases e
        · rw [if_neg h5] at e
          by_cases h6 : vlO b n p oh = -1
          · rw [if_pos h6] at e; cases e
          · rw [if_neg h6] at e
            injection e with e
            subst e
            obtain ⟨i, i1, i2, _⟩ := (vlO_cs (b := b) (n := n) (p := p) (oh := oh)).resolve_left h6
            have hv : ¬ ((-1 : Int32) - vlO b n p oh) < -6 := by rw [i2]; exact vl_neg i i1
            have hk := okL_num c6 hv (by omega)
            refine ⟨⟨r, j, c1, c2, c3, hx.2, ?_, hk.1, ?_, (fun q => by cases q), ?_⟩, hx.1⟩
            · show out.length + 1 + st.length ≤ nxP b n p
              omega
            · show dep _ = bins st + 1
              rw [hk.2, c7]
            · intro x hxm
              rcases List.mem_cons.mp hxm with hxm | hxm
              · rw [hxm]; exact .inr hv
              · exact c9 x hxm
      · rw [if_neg h4] at e; cases e
    · rw [if_neg h3] at e; cases e
  | false =>
    rw [if_neg (by decide)] at e
    rw [if_neg (by decide)] at c7
    unfold aOper at e
    dsimp only at e
    by_cases h1 : (sgI b n p 41 && decide (0 < dp)) = true
    · rw [if_pos h1] at e
      injection e with e
      subst e
      rw [Bool.and_eq_true, decide_eq_true_iff] at h1
      have hx := nx_ok (b := b) (sg_pos h1.1).2.1
      obtain ⟨r2, j2, a1, a2, a3, a4, a5, a6, a7, a8, a9⟩ := rel_ok (l := 1) (Nat.le_refl _) c1 c6 c7 c9
      generalize hre : rel 1 st out = re at a1 a3 a4 a5 a6 a7 a9
      obtain ⟨s1, o1⟩ := re
      dsimp only at a1 a3 a4 a5 a6 a7 a9 ⊢
      cases s1 with
      | nil =>
        have a1' : some (0, 0, 0) = some (dp, r2, j2) := a1
        injection a1' with a1'
        injection a1' with q1 q2
        omega
      | cons x s2 =>
        obtain ⟨d3, r3, j3, e3, hc⟩ := chk_c a1
        have ht := chk_top a1
        rcases hc with ⟨hx20, hq⟩ | ⟨hx13, _, _, hq⟩ | ⟨n1, n2, m1, m2, hq⟩
        · injection hq with q1 q2
          refine ⟨⟨r3, j3, by show chk s2 = some (dp - 1, r3, j3); rw [e3, show dp - 1 = d3 by omega], by show dp - 1 ≤ 6; omega, c3, hx.2, ?_, a3, ?_, (fun q => by cases q), a9⟩, hx.1⟩
          · show o1.length + s2.length ≤ nxP b n p
            rw [List.length_cons] at a5
            omega
          · show dep o1 = bins s2 + 1
            rw [a4, show bins (x :: s2) = bins s2 from if_pos (.inl hx20)]
        · rw [hx13, rk_13] at ht; omega
        · omega
    · rw [if_neg h1] at e
      by_cases h2 : opO b n p = -1
      · rw [if_pos h2] at e; cases e
      · rw [if_neg h2] at e
        obtain ⟨o1, o2, o3⟩ := (opO_cs (b := b) (n := n) (p := p)).resolve_left h2
        have hx := nx_ok (b := b) o3
        generalize opO b n p = x at e o1 o2
        have hx20 : ¬ x = -20 := fun q => by rw [q] at o1; revert o1; unfold isOp; decide
        have hr0 : 0 < rkN x := by
          rcases o1 with q | q | q | q | q | q | q | q | q <;> rw [q] <;> decide
        have hl1 : 1 ≤ opL (rkN x) := by unfold opL; split <;> omega
        obtain ⟨r2, j2, a1, a2, a3, a4, a5, a6, a7, a8, a9⟩ := rel_ok hl1 c1 c6 c7 c9
        generalize hre : rel (opL (rkN x)) st out = re at a1 a3 a4 a5 a6 a7 a9 e
        obtain ⟨s1, t1⟩ := re
        dsimp only at a1 a3 a4 a5 a6 a7 a9 e
        by_cases h3 : (decide (rkN x = 4) && tp4 s1) = true
        · rw [if_pos h3] at e; cases e
        · rw [if_neg h3] at e
          injection e with e
          subst e
          have hlt : r2 < rkN x := by
            unfold opL at a2
            by_cases h4 : rkN x = 4
            · rw [if_pos h4] at a2
              rw [decide_eq_true h4, Bool.true_and] at h3
              cases s1 with
              | nil =>
                have a1' : some (0, 0, 0) = some (dp, r2, j2) := a1
                injection a1' with a1'
                injection a1' with q1 q2
                injection q2 with q2 q3
                omega
              | cons y s2 =>
                have ht := chk_top a1
                have h3' : ¬ (rkN y == 4) = true := h3
                rw [beq_iff_eq] at h3'
                omega
            · rw [if_neg h4] at a2; exact a2
          refine ⟨⟨rkN x, 0, chk_op a1 hx20 o2 hlt, c2, Nat.zero_le _, hx.2, ?_, a3, ?_, fun _ q => .inl ⟨rfl, of_decide_eq_true q⟩, a9⟩, hx.1⟩
          · show t1.length + (s1.length + 1) ≤ nxP b n p
            omega
          · show dep t1 = bins (x :: s1) + 0
            rw [a4, show bins (x :: s1) = bins s1 + 1 from if_neg (fun q => q.elim hx20 o2)]
theorem aSt_ok {b : Nat → Int32} {n : Nat} {oh : Bool} {s s' : RS} (h : AI n s) (e : aSt b n oh s = .inl s') : AI n s' ∧ s.2.2.2.2.2.2 < s'.2.2.2.2.2.2 := by
  unfold aSt at e
  by_cases q : (!s.1 && (decide (s.2.2.2.1 = 0) && sgI b n s.2.2.2.2.2.2 59)) = true
  · rw [if_pos q] at e; cases e
  · rw [if_neg q] at e
    cases hn : aNx b n oh s with
    | inl t =>
      rw [hn] at e
      injection e with e
      subst e
      exact aNx_ok h hn
    | inr k => rw [hn] at e; cases e
theorem aNx_k {b : Nat → Int32} {n : Nat} {oh : Bool} {s : RS} {k : Nat} (e : aNx b n oh s = .inr k) : 1 ≤ k ∧ k ≤ 3 := by
  unfold aNx aPart aOper at e
  revert e
  repeat' split
  all_goals first
    | (intro e; cases e; done)
    | (intro e; injection e with e; omega)
theorem aNx_end {b : Nat → Int32} {n : Nat} {oh : Bool} {s : RS} (hk : tK b n s.2.2.2.2.2.2 = 0) : aNx b n oh s = .inr 1 := by
  have h3 : ∀ c, sgI b n s.2.2.2.2.2.2 c = false := fun c => by unfold sgI; rw [decide_eq_false (by omega)]; rfl
  have h1 : ∀ k, tw b n s.2.2.2.2.2.2 k = false := fun k => by unfold tw; rw [decide_eq_false (by omega)]; rfl
  have ho : opO b n s.2.2.2.2.2.2 = -1 := by
    unfold opO
    rw [h1, h1, if_neg (by decide), if_neg (by decide), if_neg (by omega)]
  unfold aNx
  cases hd : s.1 with
  | true =>
    rw [if_pos rfl]
    unfold aPart
    rw [h3, if_neg (by decide), if_neg (by omega), if_neg (by omega)]
  | false =>
    rw [if_neg (by decide)]
    unfold aOper
    rw [h3, Bool.false_and, if_neg (by decide), if_pos ho]
theorem aGo_ok {b : Nat → Int32} {n : Nat} {oh : Bool} : ∀ f s, AI n s → n < s.2.2.2.2.2.2 + f → s.2.2.2.2.2.2 ≤ (aGo b n oh f s).2.1 ∧ (aGo b n oh f s).2.1 ≤ n ∧ (aGo b n oh f s).1 ≤ 3 ∧ ((aGo b n oh f s).1 = 0 → okL (aGo b n oh f s).2.2 ∧ dep (aGo b n oh f s).2.2 = 1 ∧ (aGo b n oh f s).2.2.length ≤ (aGo b n oh f s).2.1 ∧ sgI b n (aGo b n oh f s).2.1 59 = true ∧ (∀ x, x ∈ (aGo b n oh f s).2.2 → isOp x ∨ ¬ x < -6))
  | 0, s, h, hf => by
    obtain ⟨r, j, c1, c2, c3, c4, _⟩ := h
    omega
  | f + 1, s, h, hf => by
    by_cases q : (!s.1 && (decide (s.2.2.2.1 = 0) && sgI b n s.2.2.2.2.2.2 59)) = true
    · rw [aGo_r (aSt_e q)]
      obtain ⟨r, j, c1, c2, c3, c4, c5, c6, c7, c8, c9⟩ := h
      rw [Bool.and_eq_true, Bool.and_eq_true, Bool.not_eq_true', decide_eq_true_iff] at q
      obtain ⟨q1, q2, q3⟩ := q
      rw [q1, if_neg (by decide)] at c7
      obtain ⟨r2, j2, a1, a2, a3, a4, a5, a6, a7, a8, a9⟩ := rel_ok (l := 1) (Nat.le_refl _) c1 c6 c7 c9
      refine ⟨Nat.le_refl _, c4, Nat.zero_le _, fun _ => ⟨a3, ?_, by show (rel 1 s.2.2.2.2.1 s.2.2.2.2.2.1).2.length ≤ s.2.2.2.2.2.2; omega, q3, a9⟩⟩
      show dep (rel 1 s.2.2.2.2.1 s.2.2.2.2.2.1).2 = 1
      obtain ⟨l1, l2, l3, l4, l5, l6⟩ := chk_len a1
      rw [a4]
      unfold bnR at l5
      rw [if_pos (by omega)] at l5
      omega
    · have q' : (!s.1 && (decide (s.2.2.2.1 = 0) && sgI b n s.2.2.2.2.2.2 59)) = false := by
        cases hq : (!s.1 && (decide (s.2.2.2.1 = 0) && sgI b n s.2.2.2.2.2.2 59)) with
        | true => exact absurd hq q
        | false => rfl
      cases hn : aNx b n oh s with
      | inr k =>
        rw [aGo_r (aSt_r q' hn)]
        have hk := aNx_k hn
        obtain ⟨r, j, c1, c2, c3, c4, _⟩ := h
        exact ⟨Nat.le_refl _, c4, hk.2, fun e => by have e' : k = 0 := e; omega⟩
      | inl s' =>
        have hs := aNx_ok h hn
        rw [aGo_l (aSt_l q' hn)]
        obtain ⟨g1, g2, g3, g4⟩ := aGo_ok f s' hs.1 (by omega)
        exact ⟨by omega, g2, g3, g4⟩
