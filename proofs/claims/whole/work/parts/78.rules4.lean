/-! READING RULES: the class, whole -/
theorem c_readOperator {b : Nat → Int32} {n nots dp p : Nat} {bn : Bool} {st out : List Int32} {cd wt : Nat → Int32} (hn : n ≤ 700) (hI : AI n (false, bn, nots, dp, st, out, p)) (hc : stL cd out.length = out) (hw : stL wt st.length = st) : zwp (f_X6_readOperator (b2 bn) (nI dp) (nI nots) (b2 false) cd (nI out.length) b (nI (tE b n p)) (nI (tK b n p)) (nI p) wt (nI st.length)) (fun r => Sum.elim (fun s' => CO s' r) (fun k => r.1 = nI k) (aOper b n (false, bn, nots, dp, st, out, p))) := by
  have hlen := hI.len
  dsimp only at hlen
  obtain ⟨r, j, c1, c2, c3, c4, c5, c6, c7, c8, c9⟩ := hI
  dsimp only at c1 c2 c3 c4 c5 c6 c7 c8 c9
  rw [if_neg (show ¬ false = true by decide)] at c7
  obtain ⟨l1, l2, l3, l4, l5, l6⟩ := chk_len c1
  have hp : p ≤ n := c4
  unfold f_X6_readOperator aOper
  refine zi_beq (c_sign hn) ?_
  dsimp only
  cases h41 : sgI b n p 41 with
  | false =>
    refine zi_t rfl ?_
    rw [Bool.false_and, if_neg (show ¬ false = true by decide)]
    refine zi_bind (zwp_mono (c_operatorOf hn hp) ?_)
    rintro _ rfl
    by_cases hx1 : opO b n p = -1
    · refine zi_t hx1 (zwi ?_)
      rw [if_pos hx1]; rfl
    refine zi_f hx1 ?_
    rw [if_neg hx1]
    obtain ⟨o1, o2, o3⟩ := (opO_cs (b := b) (n := n) (p := p)).resolve_left hx1
    generalize opO b n p = x at o1 o2
    have hr0 : 0 < rkN x := by
      rcases o1 with q | q | q | q | q | q | q | q | q <;> rw [q] <;> decide
    have hr6 := rk_le (x := x)
    have hl1 : 1 ≤ opL (rkN x) := by unfold opL; split <;> omega
    have hl7 : opL (rkN x) < 8 := by unfold opL; split <;> omega
    obtain ⟨r2, j2, a1, a2, a3, a4, a5, a6, a7, a8, a9⟩ := rel_ok hl1 c1 c6 c7 c9
    refine zi_beq c_rankOf ?_
    rw [rkI_op o1]
    refine zi_beq (a := 4) rfl ?_
    refine zi_bind (zwp_mono (Q := fun v => v = b2 (decide (rkN x = 4))) ?_ ?_)
    · by_cases q : rkN x = 4
      · rw [decide_eq_true q]
        exact zi_t (by rw [q]; rfl) (zwi rfl)
      · rw [decide_eq_false q]
        exact zi_f (nI_ne (b := 4) (by omega) (by decide) q) (zwi rfl)
    rintro _ rfl
    refine zi_bind (zwp_mono (Q := fun v => v = nI (opL (rkN x))) ?_ ?_)
    · unfold opL
      by_cases q : rkN x = 4
      · rw [decide_eq_true q, if_pos q]
        exact zi_f (by decide) (zwi (by rw [q]; rfl))
      · rw [decide_eq_false q, if_neg q]
        exact zi_t rfl (zwi rfl)
    rintro _ rfl
    refine zi_bind (zwp_mono (c_release (by omega) (by omega) hl7 (by rw [hw]; exact l6)) ?_)
    rintro ⟨o7, o8, o9⟩ ⟨w2, s2, e1, e2, e3, e4⟩
    rw [hw, hc, Nat.max_eq_left hl1] at e3 e4
    dsimp only at e1 e2 e3 ⊢
    generalize rel (opL (rkN x)) st out = re at a1 a3 a4 a5 a6 a7 a9 e3 e4 ⊢
    obtain ⟨s1, t1⟩ := re
    dsimp only at a1 a3 a4 a5 a6 a7 a9 e3 e4 ⊢
    have hs2 : s2 = t1.length := by rw [← e3, stL_len]
    have hw2 : w2 = s1.length := by rw [← e4, stL_len]
    subst hs2 hw2 e1 e2
    by_cases q4 : rkN x = 4
    · rw [decide_eq_true q4, Bool.true_and]
      refine zi_f (by decide) ?_
      cases s1 with
      | nil =>
        refine zi_t (show nI 0 ≤ 0 by decide) ?_
        rw [show tp4 [] = false from rfl, if_neg (show ¬ false = true by decide)]
        refine zi_beq (c_push (by omega)) ?_
        refine zi_beq (a := 2) rfl ?_
        refine zi_bind (zwp_mono (Q := fun v => v = b2 (decide (rkN x ≤ 2))) ?_ ?_)
        · by_cases q2 : rkN x ≤ 2
          · rw [decide_eq_true q2]
            exact zi_f (by rw [show (2 : Int32) = nI 2 from rfl]; exact nI_nlt q2 (by omega)) (zwi rfl)
          · rw [decide_eq_false q2]
            exact zi_t (by rw [show (2 : Int32) = nI 2 from rfl]; exact nI_lt (by omega) (by omega)) (zwi rfl)
        rintro _ rfl
        refine zi_beq c_begin (zwi ?_)
        exact ⟨rfl, rfl, rfl, rfl, rfl, rfl, e3, rfl, by show stL (upd wt 0 x) (0 + 1) = [x]; rw [stL_upd]; rfl⟩
      | cons y s3 =>
        refine zi_f (nI_nle (by rw [List.length_cons]; omega) (by rw [List.length_cons] at a7 ⊢; omega)) ?_
        rw [List.length_cons] at a7 e4 ⊢
        rw [nI_s1, zbnd_nI (by omega) (by decide), nI_clamp (show s3.length < 2 ^ 31 by omega)]
        have e4' : wt s3.length :: stL wt s3.length = y :: s3 := e4
        injection e4' with e5 e6
        rw [e5]
        refine zi_beq c_rankOf ?_
        have hy : isW y := (chk_len a1).2.2.2.2.2 y List.mem_cons_self
        have h44 : rkI y = nI 4 ↔ rkN y = 4 := by
          rcases hy with (q | q | q | q | q | q | q | q | q) | q <;> rw [q] <;> decide
        show zwp (if rkI y = nI (rkN x) then _ else _) _
        by_cases q5 : rkN y = 4
        · refine zi_t (by rw [q4]; exact h44.mpr q5) (zwi ?_)
          rw [show tp4 (y :: s3) = true from beq_iff_eq.mpr q5, if_pos rfl]; rfl
        · refine zi_f (by rw [q4]; exact fun e => q5 (h44.mp e)) ?_
          rw [show tp4 (y :: s3) = false from beq_false_of_ne q5, if_neg (show ¬ false = true by decide)]
          refine zi_beq (c_push (by omega)) ?_
          refine zi_beq (a := 2) rfl ?_
          refine zi_bind (zwp_mono (Q := fun v => v = b2 (decide (rkN x ≤ 2))) ?_ ?_)
          · by_cases q2 : rkN x ≤ 2
            · rw [decide_eq_true q2]
              exact zi_f (by rw [show (2 : Int32) = nI 2 from rfl]; exact nI_nlt q2 (by omega)) (zwi rfl)
            · rw [decide_eq_false q2]
              exact zi_t (by rw [show (2 : Int32) = nI 2 from rfl]; exact nI_lt (by omega) (by omega)) (zwi rfl)
          rintro _ rfl
          refine zi_beq c_begin (zwi ?_)
          exact ⟨rfl, rfl, rfl, rfl, rfl, rfl, e3, rfl, by show stL (upd wt (s3.length + 1) x) ((s3.length + 1) + 1) = x :: y :: s3; rw [stL_upd, e4]⟩
    · rw [decide_eq_false q4, Bool.false_and, if_neg (show ¬ false = true by decide)]
      refine zi_t rfl ?_
      refine zi_beq (c_push (by omega)) ?_
      refine zi_beq (a := 2) rfl ?_
      refine zi_bind (zwp_mono (Q := fun v => v = b2 (decide (rkN x ≤ 2))) ?_ ?_)
      · by_cases q2 : rkN x ≤ 2
        · rw [decide_eq_true q2]
          exact zi_f (by rw [show (2 : Int32) = nI 2 from rfl]; exact nI_nlt q2 (by omega)) (zwi rfl)
        · rw [decide_eq_false q2]
          exact zi_t (by rw [show (2 : Int32) = nI 2 from rfl]; exact nI_lt (by omega) (by omega)) (zwi rfl)
      rintro _ rfl
      refine zi_beq c_begin (zwi ?_)
      exact ⟨rfl, rfl, rfl, rfl, rfl, rfl, e3, rfl, by show stL (upd wt s1.length x) (s1.length + 1) = x :: s1; rw [stL_upd, e4]⟩
  | true =>
    refine zi_f (by decide) ?_
    rw [Bool.true_and]
    by_cases hd : 0 < dp
    · refine zi_f (nI_nle hd (by omega)) ?_
      rw [decide_eq_true hd, if_pos rfl]
      obtain ⟨r2, j2, a1, a2, a3, a4, a5, a6, a7, a8, a9⟩ := rel_ok (l := 1) (Nat.le_refl _) c1 c6 c7 c9
      refine zi_bind (zwp_mono (c_release (L := 0) (by omega) (by omega) (by decide) (by rw [hw]; exact l6)) ?_)
      rintro ⟨o62, o63, o64⟩ ⟨w2, s2, e1, e2, e3, e4⟩
      rw [hw, hc, show max 0 1 = 1 from rfl] at e3 e4
      dsimp only at e1 e2 e3 ⊢
      generalize rel 1 st out = re at a1 a3 a4 a5 a6 a7 a9 e3 e4 ⊢
      obtain ⟨s1, t1⟩ := re
      dsimp only at a1 a3 a4 a5 a6 a7 a9 e3 e4 ⊢
      have hs2 : s2 = t1.length := by rw [← e3, stL_len]
      have hw2 : w2 = s1.length := by rw [← e4, stL_len]
      subst hs2 hw2 e1 e2
      refine zwi ?_
      cases s1 with
      | nil =>
        have a1' : some (0, 0, 0) = some (dp, r2, j2) := a1
        injection a1' with a1'
        injection a1' with q1 q2
        omega
      | cons y s3 =>
        rw [List.length_cons] at a7 e4 ⊢
        have e4' : wt s3.length :: stL wt s3.length = y :: s3 := e4
        injection e4' with e5 e6
        refine ⟨rfl, rfl, by show nI dp - 1 = nI (dp - 1); rw [nI_m1 _ hd], rfl, rfl, rfl, e3, ?_, e6⟩
        show (if (0 : Int32) < nI (s3.length + 1) - 1 then nI (s3.length + 1) - 1 else 0) = nI s3.length
        rw [nI_s1]
        by_cases q : s3.length = 0
        · rw [q]; rfl
        · rw [if_pos (show (0 : Int32) < nI s3.length from nI_lt (a := 0) (by omega) (by omega))]
    · have hd0 : dp = 0 := by omega
      refine zi_t (by rw [hd0]; decide) ?_
      rw [decide_eq_false hd, if_neg (show ¬ false = true by decide)]
      refine zi_bind (zwp_mono (c_operatorOf hn hp) ?_)
      rintro _ rfl
      by_cases hx1 : opO b n p = -1
      · refine zi_t hx1 (zwi ?_)
        rw [if_pos hx1]; rfl
      refine zi_f hx1 ?_
      rw [if_neg hx1]
      obtain ⟨o1, o2, o3⟩ := (opO_cs (b := b) (n := n) (p := p)).resolve_left hx1
      generalize opO b n p = x at o1 o2
      have hr0 : 0 < rkN x := by
        rcases o1 with q | q | q | q | q | q | q | q | q <;> rw [q] <;> decide
      have hr6 := rk_le (x := x)
      have hl1 : 1 ≤ opL (rkN x) := by unfold opL; split <;> omega
      have hl7 : opL (rkN x) < 8 := by unfold opL; split <;> omega
      obtain ⟨r2, j2, a1, a2, a3, a4, a5, a6, a7, a8, a9⟩ := rel_ok hl1 c1 c6 c7 c9
      refine zi_beq c_rankOf ?_
      rw [rkI_op o1]
      refine zi_beq (a := 4) rfl ?_
      refine zi_bind (zwp_mono (Q := fun v => v = b2 (decide (rkN x = 4))) ?_ ?_)
      · by_cases q : rkN x = 4
        · rw [decide_eq_true q]
          exact zi_t (by rw [q]; rfl) (zwi rfl)
        · rw [decide_eq_false q]
          exact zi_f (nI_ne (b := 4) (by omega) (by decide) q) (zwi rfl)
      rintro _ rfl
      refine zi_bind (zwp_mono (Q := fun v => v = nI (opL (rkN x))) ?_ ?_)
      · unfold opL
        by_cases q : rkN x = 4
        · rw [decide_eq_true q, if_pos q]
          exact zi_f (by decide) (zwi (by rw [q]; rfl))
        · rw [decide_eq_false q, if_neg q]
          exact zi_t rfl (zwi rfl)
      rintro _ rfl
      refine zi_bind (zwp_mono (c_release (by omega) (by omega) hl7 (by rw [hw]; exact l6)) ?_)
      rintro ⟨o7, o8, o9⟩ ⟨w2, s2, e1, e2, e3, e4⟩
      rw [hw, hc, Nat.max_eq_left hl1] at e3 e4
      dsimp only at e1 e2 e3 ⊢
      generalize rel (opL (rkN x)) st out = re at a1 a3 a4 a5 a6 a7 a9 e3 e4 ⊢
      obtain ⟨s1, t1⟩ := re
      dsimp only at a1 a3 a4 a5 a6 a7 a9 e3 e4 ⊢
      have hs2 : s2 = t1.length := by rw [← e3, stL_len]
      have hw2 : w2 = s1.length := by rw [← e4, stL_len]
      subst hs2 hw2 e1 e2
      by_cases q4 : rkN x = 4
      · rw [decide_eq_true q4, Bool.true_and]
        refine zi_f (by decide) ?_
        cases s1 with
        | nil =>
          refine zi_t (show nI 0 ≤ 0 by decide) ?_
          rw [show tp4 [] = false from rfl, if_neg (show ¬ false = true by decide)]
          refine zi_beq (c_push (by omega)) ?_
          refine zi_beq (a := 2) rfl ?_
          refine zi_bind (zwp_mono (Q := fun v => v = b2 (decide (rkN x ≤ 2))) ?_ ?_)
          · by_cases q2 : rkN x ≤ 2
            · rw [decide_eq_true q2]
              exact zi_f (by rw [show (2 : Int32) = nI 2 from rfl]; exact nI_nlt q2 (by omega)) (zwi rfl)
            · rw [decide_eq_false q2]
              exact zi_t (by rw [show (2 : Int32) = nI 2 from rfl]; exact nI_lt (by omega) (by omega)) (zwi rfl)
          rintro _ rfl
          refine zi_beq c_begin (zwi ?_)
          exact ⟨rfl, rfl, rfl, rfl, rfl, rfl, e3, rfl, by show stL (upd wt 0 x) (0 + 1) = [x]; rw [stL_upd]; rfl⟩
        | cons y s3 =>
          refine zi_f (nI_nle (by rw [List.length_cons]; omega) (by rw [List.length_cons] at a7 ⊢; omega)) ?_
          rw [List.length_cons] at a7 e4 ⊢
          rw [nI_s1, zbnd_nI (by omega) (by decide), nI_clamp (show s3.length < 2 ^ 31 by omega)]
          have e4' : wt s3.length :: stL wt s3.length = y :: s3 := e4
          injection e4' with e5 e6
          rw [e5]
          refine zi_beq c_rankOf ?_
          have hy : isW y := (chk_len a1).2.2.2.2.2 y List.mem_cons_self
          have h44 : rkI y = nI 4 ↔ rkN y = 4 := by
            rcases hy with (q | q | q | q | q | q | q | q | q) | q <;> rw [q] <;> decide
          show zwp (if rkI y = nI (rkN x) then _ else _) _
          by_cases q5 : rkN y = 4
          · refine zi_t (by rw [q4]; exact h44.mpr q5) (zwi ?_)
            rw [show tp4 (y :: s3) = true from beq_iff_eq.mpr q5, if_pos rfl]; rfl
          · refine zi_f (by rw [q4]; exact fun e => q5 (h44.mp e)) ?_
            rw [show tp4 (y :: s3) = false from beq_false_of_ne q5, if_neg (show ¬ false = true by decide)]
            refine zi_beq (c_push (by omega)) ?_
            refine zi_beq (a := 2) rfl ?_
            refine zi_bind (zwp_mono (Q := fun v => v = b2 (decide (rkN x ≤ 2))) ?_ ?_)
            · by_cases q2 : rkN x ≤ 2
              · rw [decide_eq_true q2]
                exact zi_f (by rw [show (2 : Int32) = nI 2 from rfl]; exact nI_nlt q2 (by omega)) (zwi rfl)
              · rw [decide_eq_false q2]
                exact zi_t (by rw [show (2 : Int32) = nI 2 from rfl]; exact nI_lt (by omega) (by omega)) (zwi rfl)
            rintro _ rfl
            refine zi_beq c_begin (zwi ?_)
            exact ⟨rfl, rfl, rfl, rfl, rfl, rfl, e3, rfl, by show stL (upd wt (s3.length + 1) x) ((s3.length + 1) + 1) = x :: y :: s3; rw [stL_upd, e4]⟩
      · rw [decide_eq_false q4, Bool.false_and, if_neg (show ¬ false = true by decide)]
        refine zi_t rfl ?_
        refine zi_beq (c_push (by omega)) ?_
        refine zi_beq (a := 2) rfl ?_
        refine zi_bind (zwp_mono (Q := fun v => v = b2 (decide (rkN x ≤ 2))) ?_ ?_)
        · by_cases q2 : rkN x ≤ 2
          · rw [decide_eq_true q2]
            exact zi_f (by rw [show (2 : Int32) = nI 2 from rfl]; exact nI_nlt q2 (by omega)) (zwi rfl)
          · rw [decide_eq_false q2]
            exact zi_t (by rw [show (2 : Int32) = nI 2 from rfl]; exact nI_lt (by omega) (by omega)) (zwi rfl)
        rintro _ rfl
        refine zi_beq c_begin (zwi ?_)
        exact ⟨rfl, rfl, rfl, rfl, rfl, rfl, e3, rfl, by show stL (upd wt s1.length x) (s1.length + 1) = x :: s1; rw [stL_upd, e4]⟩
/-- what the reading of a rule gives -/
def RdR (b : Nat → Int32) (n : Nat) (R : RR3) (fl : Int32) (cd : Nat → Int32) (sz e k nm pl : Int32) : Prop := fl = nI R.1 ∧ pl = nI R.2.1 ∧ (R.1 = 0 → sz = nI R.2.2.length ∧ stL cd R.2.2.length = R.2.2 ∧ CTok b n R.2.1 e k nm pl)
theorem c_isEnd {b : Nat → Int32} {n dp p : Nat} {due : Bool} (hn : n ≤ 700) (hd : dp ≤ 6) : f_X6_isEnd (nI dp) (b2 due) b (nI (tK b n p)) (nI p) = some (b2 (!due && (decide (dp = 0) && sgI b n p 59))) := by
  unfold f_X6_isEnd
  cases due with
  | true => rfl
  | false =>
    rw [if_pos (show b2 false = 0 from rfl)]
    by_cases h : dp = 0
    · rw [if_pos (by rw [h]; rfl), decide_eq_true h, c_sign hn]
      show (if b2 (sgI b n p 59) = 0 then some (0 : Int32) else some 1) = _
      cases sgI b n p 59 <;> rfl
    · rw [if_neg (fun e => h ((nI_z0 (by omega)).mp e)), decide_eq_false h]; rfl
theorem AI_0 {n p : Nat} (hp : p ≤ n) : AI n (true, true, 0, 0, [], [], p) := ⟨0, 0, rfl, Nat.zero_le _, Nat.zero_le _, hp, Nat.zero_le _, trivial, rfl, fun _ _ => .inl ⟨rfl, by decide⟩, fun x hx => by cases hx⟩
theorem c_read {b : Nat → Int32} {n p0 : Nat} {oh : Bool} {bn dp nots due e k nm pl w : Int32} {cd wt : Nat → Int32} (hn : n ≤ 700) (hp0 : p0 < n) (ht : CTok b n p0 e k nm pl) : zwp (f_X6_read (b2 oh) bn dp nots due cd 0 b e k (nI n) nm pl wt w) (fun r => RdR b n (aGo b n oh (n + 1) (true, true, 0, 0, [], [], nxP b n p0)) r.1 r.2.2.2.2.2.1 r.2.2.2.2.2.2.1 r.2.2.2.2.2.2.2.1 r.2.2.2.2.2.2.2.2.1 r.2.2.2.2.2.2.2.2.2.1 r.2.2.2.2.2.2.2.2.2.2.1) := by
  have hx := nx_ok (b := b) hp0
  unfold f_X6_read
  refine zi_beq (a := 0) rfl ?_
  refine zi_t rfl ?_
  refine zi_beq (c_begin (bn := true)) ?_
  refine zi_bind (zwp_mono (c_adv hn (Nat.le_of_lt hp0) ht.1) ?_)
  rintro ⟨o5, o6, o7, o8⟩ ht1
  dsimp only at ht1 ⊢
  generalize hR : aGo b n oh (n + 1) (true, true, 0, 0, [], [], nxP b n p0) = R
  refine zl_bind (P := fun i a => a.2.1 = nI i ∧ ((∃ s f, a.1 = 0 ∧ AI n s ∧ i + 1 ≤ s.2.2.2.2.2.2 ∧ n < s.2.2.2.2.2.2 + f ∧ aGo b n oh f s = R ∧ a.2.2.1 = b2 s.2.1 ∧ a.2.2.2.1 = nI s.2.2.2.1 ∧ a.2.2.2.2.1 = nI s.2.2.1 ∧ a.2.2.2.2.2.1 = b2 s.1 ∧ CA s a.2.2.2.2.2.2.1 a.2.2.2.2.2.2.2.1 a.2.2.2.2.2.2.2.2.2.2.2.2.1 a.2.2.2.2.2.2.2.2.2.2.2.2.2 ∧ CTok b n s.2.2.2.2.2.2 a.2.2.2.2.2.2.2.2.1 a.2.2.2.2.2.2.2.2.2.1 a.2.2.2.2.2.2.2.2.2.2.1 a.2.2.2.2.2.2.2.2.2.2.2.1) ∨ (i ≤ 699 + 1 ∧ a.1 = nI R.1 ∧ 1 ≤ R.1 ∧ R.1 ≤ 3 ∧ a.2.2.2.2.2.2.2.2.2.2.2.1 = nI R.2.1))) (Post := fun a => (∃ s, a.1 = 0 ∧ AI n s ∧ R = (0, s.2.2.2.2.2.2, (rel 1 s.2.2.2.2.1 s.2.2.2.2.2.1).2) ∧ s.1 = false ∧ CA s a.2.2.2.2.2.1 a.2.2.2.2.2.2.1 a.2.2.2.2.2.2.2.2.2.2.2.1 a.2.2.2.2.2.2.2.2.2.2.2.2 ∧ CTok b n s.2.2.2.2.2.2 a.2.2.2.2.2.2.2.1 a.2.2.2.2.2.2.2.2.1 a.2.2.2.2.2.2.2.2.2.1 a.2.2.2.2.2.2.2.2.2.2.1) ∨ (a.1 = nI R.1 ∧ 1 ≤ R.1 ∧ R.1 ≤ 3 ∧ a.2.2.2.2.2.2.2.2.2.2.1 = nI R.2.1)) 700 (by decide) ⟨rfl, .inl ⟨_, n + 1, rfl, AI_0 hx.2, by show 0 + 1 ≤ nxP b n p0; omega, by omega, hR, rfl, rfl, rfl, rfl, ⟨rfl, rfl, rfl, rfl⟩, ht1⟩⟩ ?_ ?_ ?_
  · rintro i hi ⟨x9, x10, x11, x12, x13, x14, x15, x16, x17, x18, x19, x20, x21, x22⟩ ⟨ei, hP⟩
    dsimp only at ei hP
    subst ei
    refine zi_f (by rw [show (700 : Int32) = nI 700 from rfl]; exact nI_ge hi (by decide)) ?_
    rcases hP with ⟨s, f, q1, q2, q3, q4, q5, q6, q7, q8, q9, ⟨ca1, ca2, ca3, ca4⟩, ⟨t1, t2, t3, t4⟩⟩ | ⟨q0, q1, q2, q3, q4⟩
    · obtain ⟨due, bn, nots, dp, st, out, p⟩ := s
      dsimp only at q2 q3 q4 q5 q6 q7 q8 q9 ca1 ca2 ca3 ca4 t1 t2 t3 t4
      subst q1 q6 q7 q8 q9 ca1 ca3 t1 t2 t3
      have hp : p ≤ n := by obtain ⟨r, j, c1, c2, c3, c4, _⟩ := q2; exact c4
      have hd6 : dp ≤ 6 := by obtain ⟨r, j, c1, c2, c3, c4, _⟩ := q2; exact c2
      obtain ⟨f, rfl⟩ : ∃ g, f = g + 1 := ⟨f - 1, by omega⟩
      refine zi_t rfl ?_
      refine zi_beq (c_isEnd hn hd6) ?_
      cases hend : (!due && (decide (dp = 0) && sgI b n p 59)) with
      | true =>
        refine zi_f (by decide) (zwi (.inl ⟨(due, bn, nots, dp, st, out, p), rfl, q2, ?_, ?_, ⟨rfl, ca2, rfl, ca4⟩, ⟨rfl, rfl, rfl, t4⟩⟩))
        · rw [← q5]; exact aGo_r (aSt_e hend)
        · rw [Bool.and_eq_true, Bool.not_eq_true'] at hend; exact hend.1
      | false =>
        refine zi_t rfl ?_
        have hstep : zwp (if b2 due = 0 then Option.bind (f_X6_readOperator (b2 bn) (nI dp) (nI nots) (b2 due) x15 (nI out.length) b (nI (tE b n p)) (nI (tK b n p)) (nI p) x21 (nI st.length)) (fun q => match q with | (r62, o54, o55, o56, o57, o58, o59, o60, o61) => some (r62, o54, o55, o56, o57, o58, o59, o60, o61)) else Option.bind (f_X6_readPart (b2 oh) (b2 bn) (nI dp) (nI nots) (b2 due) x15 (nI out.length) b (nI (tE b n p)) (nI (tK b n p)) x19 (nI p) x21 (nI st.length)) (fun q => match q with | (r71, o63, o64, o65, o66, o67, o68, o69, o70) => some (r71, o63, o64, o65, o66, o67, o68, o69, o70))) (fun r => Sum.elim (fun s' => CO s' r) (fun k => r.1 = nI k) (aNx b n oh (due, bn, nots, dp, st, out, p))) := by
          unfold aNx
          cases due with
          | false =>
            refine zi_t rfl ?_
            refine zi_bind (zwp_mono (c_readOperator hn q2 ca2 ca4) ?_)
            rintro ⟨z1, z2, z3, z4, z5, z6, z7, z8, z9⟩ hz
            exact zwi hz
          | true =>
            refine zi_f (by decide) ?_
            refine zi_bind (zwp_mono (c_readPart hn q2 (by by_cases q : p < n; exact .inl q; exact .inr (Classical.byContradiction (fun h => q (tK_pos h)))) ca2 ca4 t4) ?_)
            rintro ⟨z1, z2, z3, z4, z5, z6, z7, z8, z9⟩ hz
            exact zwi hz
        refine zi_bind (zwp_mono hstep ?_)
        rintro ⟨j41, j42, j43, j44, j45, j46, j47, j48, j49⟩ hz
        cases hnx : aNx b n oh (due, bn, nots, dp, st, out, p) with
        | inr k =>
          rw [hnx] at hz
          have hz' : j41 = nI k := hz
          subst hz'
          have hk := aNx_k hnx
          have hRk : R = (k, p, []) := by rw [← q5]; exact aGo_r (aSt_r hend hnx)
          refine zi_f (fun e => by have := (nI_z0 (n := k) (by omega)).mp e; omega) (zwi ⟨by rw [nI_1], .inr ⟨by omega, by rw [hRk], by rw [hRk]; exact hk.1, by rw [hRk]; exact hk.2, by rw [hRk]⟩⟩)
        | inl s' =>
          rw [hnx] at hz
          obtain ⟨z1, z2, z3, z4, z5, z6⟩ := hz
          dsimp only at z1 z2 z3 z4 z5 z6
          subst z1
          have hs := aNx_ok q2 hnx
          have hpn : p < n := by
            refine Classical.byContradiction (fun q => ?_)
            have h0 : tK b n p = 0 := Classical.byContradiction (fun h => q (tK_pos h))
            rw [aNx_end h0] at hnx
            cases hnx
          have hnp : s'.2.2.2.2.2.2 = nxP b n p := by
            unfold aNx aPart aOper at hnx
            revert hnx
            repeat' split
            all_goals first
              | (intro e; cases e; done)
              | (intro e; injection e with e; rw [← e])
          refine zi_t rfl ?_
          refine zi_bind (zwp_mono (c_adv hn hp rfl) ?_)
          rintro ⟨o50, o51, o52, o53⟩ ht2
          refine zwi ⟨by rw [nI_1], .inl ⟨s', f, rfl, hs.1, by have := hs.2; dsimp only at this; omega, by have := hs.2; dsimp only at this; omega, ?_, z2, z3, z4, z5, z6, by rw [hnp]; exact ht2⟩⟩
          rw [← q5]; exact (aGo_l (aSt_l hend hnx)).symm
    · refine zi_f (fun e => ?_) (zwi (.inr ⟨q1, q2, q3, q4⟩))
      rw [q1] at e
      have := (nI_z0 (n := R.1) (by omega)).mp e
      omega
  · rintro ⟨x9, x10, x11, x12, x13, x14, x15, x16, x17, x18, x19, x20, x21, x22⟩ ⟨ei, hP⟩
    dsimp only at ei hP
    subst ei
    refine zi_t (show (700 : Int32) ≤ nI 700 by decide) (zwi ?_)
    rcases hP with ⟨s, f, q1, q2, q3, _⟩ | ⟨q0, q1, q2, q3, q4⟩
    · obtain ⟨r, j, c1, c2, c3, c4, _⟩ := q2
      omega
    · exact .inr ⟨q1, q2, q3, q4⟩
  · rintro ⟨y23, y25, y26, y27, y28, y29, y30, y31, y32, y33, y34, y35, y36⟩ hP
    dsimp only at hP ⊢
    rcases hP with ⟨s, q1, q2, q3, q4, ⟨ca1, ca2, ca3, ca4⟩, q5⟩ | ⟨q1, q2, q3, q4⟩
    · subst q1 ca1 ca3
      refine zi_t rfl ?_
      have hlen := q2.len
      obtain ⟨r, j, c1, c2, c3, c4, c5, c6, c7, c8, c9⟩ := q2
      obtain ⟨l1, l2, l3, l4, l5, l6⟩ := chk_len c1
      refine zi_bind (zwp_mono (c_release (L := 0) (by omega) (by omega) (by decide) (by rw [ca4]; exact l6)) ?_)
      rintro ⟨o37, o38, o39⟩ ⟨w2, s2, e1, e2, e3, e4⟩
      rw [ca4, ca2, show max 0 1 = 1 from rfl] at e3
      dsimp only at e1 e2 e3 ⊢
      have hs2 : s2 = R.2.2.length := by rw [q3]; show s2 = (rel 1 s.2.2.2.2.1 s.2.2.2.2.2.1).2.length; rw [← e3, stL_len]
      refine zwi ⟨by rw [q3]; rfl, by rw [q3]; exact q5.2.2.1, fun _ => ⟨by rw [← hs2]; exact e1, by rw [← hs2, q3]; exact e3, by rw [q3]; exact q5⟩⟩
    · refine zi_f (fun e => ?_) (zwi ⟨q1, q4, fun e => by omega⟩)
      rw [q1] at e
      have := (nI_z0 (n := R.1) (by omega)).mp e
      omega
