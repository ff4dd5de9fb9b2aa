/-! READING RULES: the reference, whole -/
theorem chk_mem {s : List Int32} : ∀ {d r j : Nat}, chk s = some (d, r, j) → (0 < d ↔ (-20 : Int32) ∈ s) := by
  induction s with
  | nil =>
    intro d r j h
    have h' : some (0, 0, 0) = some (d, r, j) := h
    injection h' with h'
    injection h' with h1 h2
    exact ⟨fun q => by omega, fun q => by cases q⟩
  | cons x s ih =>
    intro d r j h
    obtain ⟨d1, r1, j1, e, hc⟩ := chk_c h
    rcases hc with ⟨hx, hq⟩ | ⟨hx, h1, h2, hq⟩ | ⟨n1, n2, h1, h2, hq⟩
    · injection hq with q1 q2
      exact ⟨fun _ => by rw [hx]; exact List.mem_cons_self, fun _ => by omega⟩
    · injection hq with q1 q2
      rw [q1, ih e]
      refine ⟨fun q => List.mem_cons_of_mem _ q, fun q => ?_⟩
      rcases List.mem_cons.mp q with q | q
      · rw [← q] at hx; exact absurd hx (by decide)
      · exact q
    · injection hq with q1 q2
      rw [q1, ih e]
      refine ⟨fun q => List.mem_cons_of_mem _ q, fun q => ?_⟩
      rcases List.mem_cons.mp q with q | q
      · exact absurd q.symm n1
      · exact q
theorem m_isOpened {ws : Nat → Int32} {st : List Int32} {dp r j : Nat} (hc : chk st = some (dp, r, j)) (hw : st.length ≤ 128) (hs : stL ws st.length = st.map opX) : zwp (f_X12_isOpened (nI st.length) ws) (fun r => r = b2 (decide (0 < dp))) := by
  obtain ⟨l1, l2, l3, l4, l5, l6⟩ := chk_len hc
  have hm := chk_mem hc
  unfold f_X12_isOpened
  refine zl_bind (P := fun i a => ∃ s', a = nI s'.length - 1 ∧ s'.length + i = st.length ∧ (∀ x, x ∈ s' → isW x) ∧ stL ws s'.length = s'.map opX ∧ (0 < dp ↔ (-20 : Int32) ∈ s')) (Post := fun y => (y < 0 ∧ ¬ 0 < dp) ∨ (¬ y < 0 ∧ 0 < dp)) st.length (by omega) ⟨st, rfl, rfl, l6, hs, hm⟩ ?_ ?_ ?_
  · rintro i hi _ ⟨s', rfl, h1, h2, h3, h4⟩
    cases s' with
    | nil => rw [List.length_nil] at h1; omega
    | cons x s2 =>
      have hx := h2 x List.mem_cons_self
      obtain ⟨e1, e2⟩ := map_stL h3
      rw [List.length_cons] at h1 ⊢
      rw [nI_s1]
      refine zi_f (nI_pos (by omega)) ?_
      rw [zbnd_nI (by omega) (by decide), nI_clamp (show s2.length < 2 ^ 31 by omega), e1]
      refine zi_beq (m_open hx) ?_
      by_cases q : x = -20
      · rw [decide_eq_true q]
        refine zi_f (by decide) (zwi (.inr ⟨nI_pos (by omega), h4.mpr ?_⟩))
        rw [q]; exact List.mem_cons_self
      · rw [decide_eq_false q]
        refine zi_t rfl (zwi ⟨s2, by rw [m1_eq], by omega, fun y hy => h2 y (List.mem_cons_of_mem _ hy), e2, h4.trans ⟨fun m => ?_, fun m => List.mem_cons_of_mem _ m⟩⟩)
        rcases List.mem_cons.mp m with m | m
        · exact absurd m.symm q
        · exact m
  · rintro _ ⟨s', rfl, h1, h2, h3, h4⟩
    cases s' with
    | cons x s2 => rw [List.length_cons] at h1; omega
    | nil =>
      refine zi_t (show nI 0 - 1 < 0 by decide) (zwi (.inl ⟨by decide, fun q => by have := h4.mp q; cases this⟩))
  · intro y h
    rcases h with ⟨h1, h2⟩ | ⟨h1, h2⟩
    · rw [decide_eq_false h2]; exact zi_t h1 (zwi rfl)
    · rw [decide_eq_true h2]; exact zi_f h1 (zwi rfl)
theorem m_dropsB {ws rc : Nat → Int32} {t w : Nat} (hw : w ≤ 128) (ht : t + w < 1400) : zwp (f_X12_drops 0 rc (nI t) (nI w) ws) (fun r => ∃ t', r.2.1 = nI t' ∧ t' < 1400) := by
  unfold f_X12_drops
  refine zl_bind (P := fun i a => ∃ rc' w', a = (rc', nI (t + i), nI w') ∧ w' + i = w) (Post := fun r => ∃ t', r.2.1 = nI t' ∧ t' < 1400) w (by omega) ⟨rc, w, rfl, rfl⟩ ?_ ?_ ?_
  · rintro i hi _ ⟨rc', w', rfl, h1⟩
    obtain ⟨v, rfl⟩ : ∃ v, w' = v + 1 := ⟨w' - 1, by omega⟩
    refine zi_f (nI_nle (by omega) (by omega)) ?_
    dsimp only
    rw [nI_s1, zbnd_nI (by omega) (by decide), nI_clamp (show v < 2 ^ 31 by omega)]
    refine zi_bind (zwp_mono (Q := fun _ => True) ?_ ?_)
    · unfold f_X12_isOpen
      exact zi_c (fun _ => zwi trivial) (fun _ => zwi trivial)
    intro r7 _
    refine zi_c (fun _ => ?_) (fun _ => zwi ⟨t + i, rfl, by omega⟩)
    rw [zbnd_nI (by omega) (by decide)]
    refine zi_bind (zwp_mono (Q := fun _ => True) ?_ ?_)
    · unfold f_X12_strength
      exact zi_c (fun _ => zwi trivial) (fun _ => zi_c (fun _ => zwi trivial) (fun _ => zi_c (fun _ => zwi trivial) (fun _ => zi_c (fun _ => zwi trivial) (fun _ => zi_c (fun _ => zwi trivial) (fun _ => zi_c (fun _ => zwi trivial) (fun _ => zi_c (fun _ => zwi trivial) (fun _ => zwi trivial)))))))
    intro r8 _
    refine zi_c (fun _ => zwi ⟨t + i, rfl, by omega⟩) (fun _ => ?_)
    rw [zbnd_nI (by omega) (by decide)]
    refine zi_beq (m_puts (by omega)) (zwi ⟨_, v, rfl, by omega⟩)
  · rintro _ ⟨rc', w', rfl, h1⟩
    have : w' = 0 := by omega
    subst this
    exact zi_t (show nI 0 ≤ 0 by decide) (zwi ⟨t + w, rfl, by omega⟩)
  · rintro ⟨y4, y5, y6⟩ h; exact zwi h
theorem rel_45 {s : List Int32} : ∀ {o : List Int32} {d r j : Nat} {t : List Bool}, chk s = some (d, r, j) → lvF s = false :: t → rel 4 s o = rel 5 s o := by
  induction s with
  | nil => intro o d r j t _ _; rfl
  | cons x s ih =>
    intro o d r j t h hl
    obtain ⟨d1, r1, j1, e, hc⟩ := chk_c h
    have hl2 : lvF (x :: s) = if x = -20 then false :: lvF s else match lvF s with
      | [] => []
      | h :: t => (h || (rkN x == 4)) :: t := rfl
    by_cases q : rkN x < 4
    · rw [rel_t q, rel_t (by omega)]
    · have hn20 : ¬ x = -20 := fun hx => by rw [hx, rk_20] at q; omega
      obtain ⟨f1, t1, e1, _⟩ := lvF_c e
      rw [if_neg hn20, e1] at hl2
      dsimp only at hl2
      rw [hl] at hl2
      injection hl2 with g1 g2
      have g3 := g1.symm
      rw [Bool.or_eq_false_iff] at g3
      have hn4 : ¬ rkN x = 4 := fun h4 => by rw [h4] at g3; exact absurd g3.2 (by decide)
      rw [rel_f q, rel_f (by omega)]
      exact ih e (by rw [e1, g3.1])
theorem sg_f {b : Nat → Int32} {n p : Nat} {c : Int32} (h : ¬ tK b n p = 3) : sgI b n p c = false := by unfold sgI; rw [decide_eq_false h]; rfl
theorem sg_n {b : Nat → Int32} {n p : Nat} {c c' : Int32} (h : sgI b n p c = true) (hc : ¬ c = c') : sgI b n p c' = false := by
  have := (sg_pos h).2.2
  unfold sgI
  rw [this, beq_false_of_ne hc, Bool.and_false]
theorem aSt_op {b : Nat → Int32} {n : Nat} {oh : Bool} {f : Nat} {s s' : RS} (hd : s.1 = false) (h : aOper b n s = .inl s') : aGo b n oh (f + 1) s = aGo b n oh f s' := by
  have hx : aNx b n oh s = .inl s' := by unfold aNx; rw [hd, if_neg (by decide)]; exact h
  refine aGo_l (aSt_l ?_ hx)
  cases h59 : sgI b n s.2.2.2.2.2.2 59 with
  | false => rw [Bool.and_false, Bool.and_false]
  | true =>
    exfalso
    have hk := (sg_pos h59).1
    have ho : opO b n s.2.2.2.2.2.2 = -1 := by
      unfold opO
      rw [show tw b n s.2.2.2.2.2.2 14 = false by unfold tw; rw [decide_eq_false (by omega)]; rfl, show tw b n s.2.2.2.2.2.2 13 = false by unfold tw; rw [decide_eq_false (by omega)]; rfl, if_neg (by decide), if_neg (by decide), if_pos hk, (sg_pos h59).2.2]
      decide
    unfold aOper at h
    rw [sg_n h59 (by decide), Bool.false_and, if_neg (by decide), if_pos ho] at h
    cases h
theorem aSt_opR {b : Nat → Int32} {n : Nat} {oh : Bool} {f : Nat} {s : RS} (hd : s.1 = false) (h : aOper b n s = .inr 1) : aGo b n oh (f + 1) s = if s.2.2.2.1 = 0 ∧ sgI b n s.2.2.2.2.2.2 59 = true then (0, s.2.2.2.2.2.2, (rel 1 s.2.2.2.2.1 s.2.2.2.2.2.1).2) else (1, s.2.2.2.2.2.2, []) := by
  have hx : aNx b n oh s = .inr 1 := by unfold aNx; rw [hd, if_neg (by decide)]; exact h
  by_cases q : s.2.2.2.1 = 0 ∧ sgI b n s.2.2.2.2.2.2 59 = true
  · rw [if_pos q]
    exact aGo_r (aSt_e (by rw [hd, decide_eq_true q.1, q.2]; rfl))
  · rw [if_neg q]
    refine aGo_r (aSt_r ?_ hx)
    rw [hd]
    by_cases q0 : s.2.2.2.1 = 0
    · cases h59 : sgI b n s.2.2.2.2.2.2 59 with
      | true => exact absurd ⟨q0, h59⟩ q
      | false => rw [Bool.and_false, Bool.and_false]
    · rw [decide_eq_false q0]; rfl
theorem aOper_ok {b : Nat → Int32} {n : Nat} {s s' : RS} (hI : AI n s) (hd : s.1 = false) (h : aOper b n s = .inl s') : AI n s' ∧ s.2.2.2.2.2.2 < s'.2.2.2.2.2.2 := aNx_ok (oh := false) hI (by unfold aNx; rw [hd, if_neg (by decide)]; exact h)
theorem aOper_op {b : Nat → Int32} {n nots dp p l : Nat} {bn bq : Bool} {st out : List Int32} {x : Int32} (h41 : sgI b n p 41 = false) (hx : opO b n p = x) (h1 : ¬ x = -1) (hl : opL (rkN x) = l) (h4 : (decide (rkN x = 4) && tp4 (rel l st out).1) = false) (hb : decide (rkN x ≤ 2) = bq) : aOper b n (false, bn, nots, dp, st, out, p) = .inl (true, bq, 0, dp, x :: (rel l st out).1, (rel l st out).2, nxP b n p) := by
  unfold aOper
  dsimp only
  rw [h41, Bool.false_and, if_neg (show ¬ false = true by decide), hx, if_neg h1, hl, h4, if_neg (show ¬ false = true by decide), hb]
theorem aOper_no {b : Nat → Int32} {n nots dp p : Nat} {bn : Bool} {st out : List Int32} (h41 : sgI b n p 41 = false ∨ dp = 0) (hx : opO b n p = -1) : aOper b n (false, bn, nots, dp, st, out, p) = .inr 1 := by
  unfold aOper
  dsimp only
  rw [show (sgI b n p 41 && decide (0 < dp)) = false by
    rcases h41 with h | h
    · rw [h]; rfl
    · rw [h]; exact Bool.and_false _, if_neg (show ¬ false = true by decide), if_pos hx]
theorem m_expression {b tape rc0 : Nat → Int32} {n a0 : Nat} {oh : Bool} {R : RR3} (hn : n ≤ 700) (htp : ∀ k, k < n → tape k = b k) {p1 : Nat} {dpm l0 nx pl sg so va wn : Int32} {wd : Int64} {ws ts rc : Nat → Int32} {fv lv : Int32} (hp1 : p1 ≤ n) (ha0 : a0 + 1 ≤ 2 * p1) (hR : aGo b n oh (n + 1) (true, true, 0, 0, [], [], p1) = R) (hfr : ∀ j, j < a0 → rc j = rc0 j) (hT : MTok b n p1 l0 nx pl sg so va wd) : zwp (f_X12_expression (fV oh) (lV oh) dpm 0 (-1) fv lv l0 (nI n) nx pl rc sg so tape ts (nI a0) va wn ws wd) (fun r => (r.2.1 = 0 ∧ r.2.2.1 = -1 ∧ MTok b n R.2.1 r.2.2.2.2.2.1 r.2.2.2.2.2.2.1 r.2.2.2.2.2.2.2.1 r.2.2.2.2.2.2.2.2.2.1 r.2.2.2.2.2.2.2.2.2.2.1 r.2.2.2.2.2.2.2.2.2.2.2.2.2.1 r.2.2.2.2.2.2.2.2.2.2.2.2.2.2.2.2 ∧ ((R.1 = 0 ∧ ∃ t, r.2.2.2.2.2.2.2.2.2.2.2.2.1 = nI (t + 1) ∧ CRL r.2.2.2.2.2.2.2.2.1 a0 R.2.2 t ∧ r.2.2.2.2.2.2.2.2.1 t = 0 ∧ t < 1400 ∧ t + 1 ≤ 2 * R.2.1 ∧ ∀ j, j < a0 → r.2.2.2.2.2.2.2.2.1 j = rc0 j) ∨ (R.1 = 1 ∧ sgI b n R.2.1 59 = false))) ∨ (r.2.1 = nI R.1 ∧ r.2.2.1 = nI R.2.1 ∧ 1 ≤ R.1 ∧ R.1 ≤ 3)) := by
  unfold f_X12_expression
  refine zi_beq (a := 1) rfl (zi_f (by decide) ?_)
  refine zi_beq (a := (1, 0, -1, upd ts 1 0)) ?_ ?_
  · unfold f_X12_deeper
    rw [if_neg (by decide), show (0 : Int32) + 1 = nI 1 from rfl, zbnd_nI (by decide) (by decide)]; rfl
  refine zi_bind (zwp_mono (m_operand hn htp (R := R) (a0 := a0) (rc0 := rc0) (bn := true) (ts := upd ts 1 0) (AI_0 hp1) rfl (f := n + 1) (by omega) hR ⟨⟨rfl, Nat.zero_le _, rfl, rfl, ⟨pk_us, trivial⟩⟩, hfr, a0, rfl, rfl, by show a0 + 2 * 0 + 1 ≤ 2 * p1; omega⟩ hT) ?_)
  rintro ⟨o6, o7, o8, o9, o10, o11, o12, o13, o14, o15, o16, o17, o18, o19, o20⟩ hz
  dsimp only at hz ⊢
  refine zl_bind (P := fun i a => (∃ s f, (a.1 = 1 ∧ i + 1 ≤ s.2.2.2.2.2.2) ∧ a.2.2.1 = 0 ∧ a.2.2.2.1 = -1 ∧ AI n s ∧ s.1 = false ∧ n < s.2.2.2.2.2.2 + f ∧ aGo b n oh f s = R ∧ MA a0 rc0 s a.2.1 a.2.2.2.2.2.2.2.2.2.2.2.2.2.1 a.2.2.2.2.2.2.2.2.2.2.2.2.2.2.1 a.2.2.2.2.2.2.2.2.2.2.1 a.2.2.2.2.2.2.2.1 a.2.2.2.2.2.2.2.2.2.2.2.1 ∧ MTok b n s.2.2.2.2.2.2 a.2.2.2.2.1 a.2.2.2.2.2.1 a.2.2.2.2.2.2.1 a.2.2.2.2.2.2.2.2.1 a.2.2.2.2.2.2.2.2.2.1 a.2.2.2.2.2.2.2.2.2.2.2.2.1 a.2.2.2.2.2.2.2.2.2.2.2.2.2.2.2) ∨ (∃ s f, (a.1 = 0 ∧ aOper b n s = .inr 1) ∧ a.2.2.1 = 0 ∧ a.2.2.2.1 = -1 ∧ AI n s ∧ s.1 = false ∧ n < s.2.2.2.2.2.2 + f ∧ aGo b n oh f s = R ∧ MA a0 rc0 s a.2.1 a.2.2.2.2.2.2.2.2.2.2.2.2.2.1 a.2.2.2.2.2.2.2.2.2.2.2.2.2.2.1 a.2.2.2.2.2.2.2.2.2.2.1 a.2.2.2.2.2.2.2.1 a.2.2.2.2.2.2.2.2.2.2.2.1 ∧ MTok b n s.2.2.2.2.2.2 a.2.2.2.2.1 a.2.2.2.2.2.1 a.2.2.2.2.2.2.1 a.2.2.2.2.2.2.2.2.1 a.2.2.2.2.2.2.2.2.2.1 a.2.2.2.2.2.2.2.2.2.2.2.2.1 a.2.2.2.2.2.2.2.2.2.2.2.2.2.2.2) ∨ Bad R a.2.2.1 a.2.2.2.1 a.2.2.2.2.2.2.2.2.2.2.2.2.2.1 a.2.2.2.2.2.2.2.2.2.2.2.1) (Post := fun a => (∃ s f, aOper b n s = .inr 1 ∧ a.2.1 = 0 ∧ a.2.2.1 = -1 ∧ AI n s ∧ s.1 = false ∧ n < s.2.2.2.2.2.2 + f ∧ aGo b n oh f s = R ∧ MA a0 rc0 s a.1 a.2.2.2.2.2.2.2.2.2.2.2.2.1 a.2.2.2.2.2.2.2.2.2.2.2.2.2.1 a.2.2.2.2.2.2.2.2.2.1 a.2.2.2.2.2.2.1 a.2.2.2.2.2.2.2.2.2.2.1 ∧ MTok b n s.2.2.2.2.2.2 a.2.2.2.1 a.2.2.2.2.1 a.2.2.2.2.2.1 a.2.2.2.2.2.2.2.1 a.2.2.2.2.2.2.2.2.1 a.2.2.2.2.2.2.2.2.2.2.2.1 a.2.2.2.2.2.2.2.2.2.2.2.2.2.2) ∨ Bad R a.2.1 a.2.2.1 a.2.2.2.2.2.2.2.2.2.2.2.2.1 a.2.2.2.2.2.2.2.2.2.2.1) 700 (by decide) ?_ ?_ ?_ ?_
  · rcases hz with ⟨s', f', z1, z2, z3, z4, z5, z6, z7, z8, z9⟩ | hB
    · exact .inl ⟨s', f', ⟨rfl, by omega⟩, z1, z2, z3, z4, z6, z7, z8, z9⟩
    · exact .inr (.inr hB)
  · rintro i hi ⟨x21, x23, x24, x25, x26, x27, x28, x29, x30, x31, x32, x33, x34, x35, x36, x37⟩ hP
    dsimp only at hP
    rcases hP with ⟨s, f, ⟨q0, q1⟩, q01, q02, q2, q3, q4, q5, ⟨⟨m1, m2, m3, m4, m5⟩, g1, t, gt, g2, g3⟩, ⟨u1, u2, u3, u4, u5, u6, u7⟩⟩ | ⟨s, f, ⟨q0, q1⟩, q01, q02, q2, q3, q4, q5, q6, q7⟩ | hB
    · obtain ⟨due, bn, nots, dp, st, out, p⟩ := s
      dsimp only at q1 q2 q3 q4 q5 m1 m2 m3 m4 m5 g2 g3 u1 u2 u3 u4 u5 u6 u7
      subst q0 q01 q02 q3 gt m3 m1
      have hlen := q2.len
      dsimp only at hlen
      have q2' := q2
      obtain ⟨r, j, c1, c2, c3, hp, c5, c6, c7, c8, c9⟩ := q2'
      dsimp only at c1 c2 c3 hp c5 c6 c7 c8 c9
      rw [if_neg (show ¬ false = true by decide)] at c7
      obtain ⟨l1, l2, l3, l4, l5, l6⟩ := chk_len c1
      obtain ⟨fl, tl, e1, e2, e1a, e1b⟩ := lvF_c c1
      rw [e1] at m5
      refine zi_f (show ¬ (1 : Int32) = 0 by decide) ?_
      refine zi_beq (a := 1) rfl (zi_f (by decide) ?_)
      dsimp only
      refine zi_bind (zwp_mono (m_kw hn hp u1 u5 u7) ?_)
      rintro _ rfl
      by_cases h13 : tw b n p 13 = true
      · have hk : kwI b n p = 13 := (kw_iff (k := 13) (by decide)).mpr h13
        have hk1 := tw_pos h13
        have h41 : sgI b n p 41 = false := sg_f (by omega)
        have hx : opO b n p = -12 := by
          unfold opO
          rw [show tw b n p 14 = false from Bool.eq_false_iff.mpr (fun q => by have := tw_one (by decide) (by decide) h13 q; omega), h13]
          rfl
        refine zi_t hk ?_
        refine zi_beq (a := 2) (if_pos hk) ?_
        have hop := aOper_op (nots := nots) (dp := dp) (bn := bn) (st := st) (out := out) (x := -12) (l := 2) (bq := true) h41 hx (by decide) (by decide) (by rw [decide_eq_false (by decide)]; rfl) (by decide)
        obtain ⟨r2, j2, a1, a2, a3, a4, a5, a6, a7, a8, a9⟩ := rel_ok (l := 2) (by decide) c1 c6 c7 c9
        refine zi_bind (zwp_mono (m_drops (L := 2) (by omega) (by omega) (by decide) l6 m4 g2 g1) ?_)
        rintro ⟨rc1, tp1, wn1⟩ ⟨d1, d2, d3, d4, d5⟩
        rw [show max 2 1 = 2 from rfl] at d1 d2 d3 d4
        dsimp only at d1 d2 d3 d4 d5 ⊢
        have hok := aOper_ok q2 rfl hop
        have hlt : p < nxP b n p := hok.2
        obtain ⟨g, rfl⟩ : ∃ g, f = g + 1 := ⟨f - 1, by omega⟩
        rw [aSt_op rfl hop] at q5
        obtain ⟨h2, e3, e4⟩ := a8 _ tl e1
        obtain ⟨fl2, tl2, e5, e6, e7, e8⟩ := lvF_c a1
        generalize rel 2 st out = re at a1 a2 a3 a4 a5 a6 a7 a9 d1 d2 d3 d4 hok q5 e3 e5
        obtain ⟨s1, t1⟩ := re
        dsimp only at a1 a2 a3 a4 a5 a6 a7 a9 d1 d2 d3 d4 hok q5 e3 e5
        rw [e3] at e5
        injection e5 with e5 e5'
        refine zi_beq (a := 4) (if_pos hk) ?_
        rw [d1]
        refine zi_beq (m_waits (by omega)) ?_
        rw [zbnd_nI (by omega) (by decide), nI_clamp (show dp + 1 < 2 ^ 31 by omega)]
        refine zi_bind (zwp_mono (m_gs hn hp htp u2) ?_)
        rintro ⟨v1, v2, v3, v4, v5, v6, v7⟩ hT2
        dsimp only at hT2 ⊢
        refine zi_bind (zwp_mono (m_operand hn htp (f := g) (bn := true) (R := R) (a0 := a0) (rc0 := rc0) hok.1 rfl (by omega) q5 ⟨⟨rfl, m2, rfl, push_stL (x := -12) d2, ?_⟩, d5, _, d3, d4, ?_⟩ hT2) ?_)
        · have hlv : lvF (-12 :: s1) = false :: tl := by
            have hl2 : lvF (-12 :: s1) = match lvF s1 with
              | [] => []
              | h :: t => (h || (rkN (-12) == 4)) :: t := rfl
            rw [hl2, e3]
            show (h2 || (rkN (-12) == 4)) :: tl = _
            rw [e5, e7 (by omega), show (rkN (-12) == 4) = false by decide]; rfl
          show TR _ (lvF (-12 :: s1))
          rw [hlv]
          have := TR_put (h := false) m5.2
          rw [e2] at this
          exact this
        · show t + (st.length - s1.length) + 2 * (s1.length + 1) + 1 ≤ 2 * nxP b n p
          omega
        rintro ⟨w1, w2, w3, w4, w5, w6, w7, w8, w9, w10, w11, w12, w13, w14, w15⟩ hz
        rcases hz with ⟨s', f', z1, z2, z3, z4, z5, z6, z7, z8, z9⟩ | hB
        · exact zwi (.inl ⟨s', f', ⟨rfl, by have z5' : nxP b n p < s'.2.2.2.2.2.2 := z5; omega⟩, z1, z2, z3, z4, z6, z7, z8, z9⟩)
        · exact zwi (.inr (.inr hB))
      · have n13 : tw b n p 13 = false := Bool.eq_false_iff.mpr h13
        have hk13 : ¬ kwI b n p = 13 := fun e => h13 ((kw_iff (k := 13) (by decide)).mp e)
        refine zi_f hk13 ?_
        by_cases h14 : tw b n p 14 = true
        · have hk : kwI b n p = 14 := (kw_iff (k := 14) (by decide)).mpr h14
          have hk1 := tw_pos h14
          have h41 : sgI b n p 41 = false := sg_f (by omega)
          have hx : opO b n p = -11 := by
            unfold opO
            rw [h14]
            rfl
          refine zi_t hk ?_
          refine zi_beq (a := 1) (if_neg hk13) ?_
          have hop := aOper_op (nots := nots) (dp := dp) (bn := bn) (st := st) (out := out) (x := -11) (l := 1) (bq := true) h41 hx (by decide) (by decide) (by rw [decide_eq_false (by decide)]; rfl) (by decide)
          obtain ⟨r2, j2, a1, a2, a3, a4, a5, a6, a7, a8, a9⟩ := rel_ok (l := 1) (by decide) c1 c6 c7 c9
          refine zi_bind (zwp_mono (m_drops (L := 1) (by omega) (by omega) (by decide) l6 m4 g2 g1) ?_)
          rintro ⟨rc1, tp1, wn1⟩ ⟨d1, d2, d3, d4, d5⟩
          rw [show max 1 1 = 1 from rfl] at d1 d2 d3 d4
          dsimp only at d1 d2 d3 d4 d5 ⊢
          have hok := aOper_ok q2 rfl hop
          have hlt : p < nxP b n p := hok.2
          obtain ⟨g, rfl⟩ : ∃ g, f = g + 1 := ⟨f - 1, by omega⟩
          rw [aSt_op rfl hop] at q5
          obtain ⟨h2, e3, e4⟩ := a8 _ tl e1
          obtain ⟨fl2, tl2, e5, e6, e7, e8⟩ := lvF_c a1
          generalize rel 1 st out = re at a1 a2 a3 a4 a5 a6 a7 a9 d1 d2 d3 d4 hok q5 e3 e5
          obtain ⟨s1, t1⟩ := re
          dsimp only at a1 a2 a3 a4 a5 a6 a7 a9 d1 d2 d3 d4 hok q5 e3 e5
          rw [e3] at e5
          injection e5 with e5 e5'
          refine zi_beq (a := 5) (if_neg hk13) ?_
          rw [d1]
          refine zi_beq (m_waits (by omega)) ?_
          rw [zbnd_nI (by omega) (by decide), nI_clamp (show dp + 1 < 2 ^ 31 by omega)]
          refine zi_bind (zwp_mono (m_gs hn hp htp u2) ?_)
          rintro ⟨v1, v2, v3, v4, v5, v6, v7⟩ hT2
          dsimp only at hT2 ⊢
          refine zi_bind (zwp_mono (m_operand hn htp (f := g) (bn := true) (R := R) (a0 := a0) (rc0 := rc0) hok.1 rfl (by omega) q5 ⟨⟨rfl, m2, rfl, push_stL (x := -11) d2, ?_⟩, d5, _, d3, d4, ?_⟩ hT2) ?_)
          · have hlv : lvF (-11 :: s1) = false :: tl := by
              have hl2 : lvF (-11 :: s1) = match lvF s1 with
                | [] => []
                | h :: t => (h || (rkN (-11) == 4)) :: t := rfl
              rw [hl2, e3]
              show (h2 || (rkN (-11) == 4)) :: tl = _
              rw [e5, e7 (by omega), show (rkN (-11) == 4) = false by decide]; rfl
            show TR _ (lvF (-11 :: s1))
            rw [hlv]
            have := TR_put (h := false) m5.2
            rw [e2] at this
            exact this
          · show t + (st.length - s1.length) + 2 * (s1.length + 1) + 1 ≤ 2 * nxP b n p
            omega
          rintro ⟨w1, w2, w3, w4, w5, w6, w7, w8, w9, w10, w11, w12, w13, w14, w15⟩ hz
          rcases hz with ⟨s', f', z1, z2, z3, z4, z5, z6, z7, z8, z9⟩ | hB
          · exact zwi (.inl ⟨s', f', ⟨rfl, by have z5' : nxP b n p < s'.2.2.2.2.2.2 := z5; omega⟩, z1, z2, z3, z4, z6, z7, z8, z9⟩)
          · exact zwi (.inr (.inr hB))
        · have n14 : tw b n p 14 = false := Bool.eq_false_iff.mpr h14
          refine zi_f (fun e => h14 ((kw_iff (k := 14) (by decide)).mp e)) ?_
          by_cases h60 : sgI b n p 60 = true
          · obtain ⟨hk3, hpn, hbp⟩ := sg_pos h60
            have h61 : sgI b n p 61 = false := sg_n h60 (by decide)
            have h43 : sgI b n p 43 = false := sg_n h60 (by decide)
            have h45 : sgI b n p 45 = false := sg_n h60 (by decide)
            have h42 : sgI b n p 42 = false := sg_n h60 (by decide)
            have h47 : sgI b n p 47 = false := sg_n h60 (by decide)
            have h41 : sgI b n p 41 = false := sg_n h60 (by decide)
            have hx : opO b n p = -14 := by
              unfold opO
              rw [n14, n13, if_neg (by decide), if_neg (by decide), if_pos hk3, hbp]
              decide
            refine zi_beq (m_sign u4 u5) ?_
            rw [h60]
            refine zi_f (by decide) ?_
            rw [zbnd_nI (by omega) (by decide), nI_clamp (show dp + 1 < 2 ^ 31 by omega)]
            have hts : x32 (dp + 1) = b2 fl := by rw [← e2]; exact m5.1
            cases hfl : fl with
            | false =>
              subst hfl
              refine zi_t hts ?_
              have h45 := rel_45 (o := out) c1 e1
              have htp4 : (decide (rkN (-14) = 4) && tp4 (rel 5 st out).1) = false := by
                rw [decide_eq_true (by decide), Bool.true_and]
                obtain ⟨r2, j2, a1, a2, a3, a4, a5, a6, a7, a8, a9⟩ := rel_ok (l := 5) (by decide) c1 c6 c7 c9
                obtain ⟨h2, e3, e4⟩ := a8 false tl e1
                obtain ⟨fl2, tl2, e5, e6, e7, e8⟩ := lvF_c a1
                rw [e3] at e5
                injection e5 with e5 e5'
                cases hs : (rel 5 st out).1 with
                | nil => rfl
                | cons y s3 =>
                  rw [hs] at a1
                  have ht := chk_top a1
                  refine beq_false_of_ne (fun h4 => ?_)
                  have := e8 (by omega)
                  rw [← e5, e4 (by decide)] at this
                  cases this
              have hop := aOper_op (nots := nots) (dp := dp) (bn := bn) (st := st) (out := out) (x := -14) (l := 5) (bq := false) h41 hx (by decide) (by decide) htp4 (by decide)
              obtain ⟨r2, j2, a1, a2, a3, a4, a5, a6, a7, a8, a9⟩ := rel_ok (l := 5) (by decide) c1 c6 c7 c9
              refine zi_bind (zwp_mono (m_drops (L := 4) (by omega) (by omega) (by decide) l6 m4 g2 g1) ?_)
              rintro ⟨rc1, tp1, wn1⟩ ⟨d1, d2, d3, d4, d5⟩
              rw [show max 4 1 = 4 from rfl, h45] at d1 d2 d3 d4
              dsimp only at d1 d2 d3 d4 d5 ⊢
              have hok := aOper_ok q2 rfl hop
              have hlt : p < nxP b n p := hok.2
              obtain ⟨g, rfl⟩ : ∃ g, f = g + 1 := ⟨f - 1, by omega⟩
              rw [aSt_op rfl hop] at q5
              obtain ⟨h2, e3, e4⟩ := a8 _ tl e1
              obtain ⟨fl2, tl2, e5, e6, e7, e8⟩ := lvF_c a1
              generalize rel 5 st out = re at a1 a2 a3 a4 a5 a6 a7 a9 d1 d2 d3 d4 hok q5 e3 e5
              obtain ⟨s1, t1⟩ := re
              dsimp only at a1 a2 a3 a4 a5 a6 a7 a9 d1 d2 d3 d4 hok q5 e3 e5
              rw [e3] at e5
              injection e5 with e5 e5'
              refine zi_beq (m_sign u4 u5) ?_
              rw [h60]
              refine zi_beq (a := 6) (if_neg (by decide)) ?_
              rw [d1]
              refine zi_beq (m_waits (by omega)) ?_
              rw [zbnd_nI (by omega) (by decide)]
              refine zi_bind (zwp_mono (m_gs hn hp htp u2) ?_)
              rintro ⟨v1, v2, v3, v4, v5, v6, v7⟩ hT2
              dsimp only at hT2 ⊢
              refine zi_bind (zwp_mono (m_operand hn htp (f := g) (bn := false) (R := R) (a0 := a0) (rc0 := rc0) hok.1 rfl (by omega) q5 ⟨⟨rfl, m2, rfl, push_stL (x := -14) d2, ?_⟩, d5, _, d3, d4, ?_⟩ hT2) ?_)
              · have hlv : lvF (-14 :: s1) = true :: tl := by
                  have hl2 : lvF (-14 :: s1) = match lvF s1 with
                    | [] => []
                    | h :: t => (h || (rkN (-14) == 4)) :: t := rfl
                  rw [hl2, e3]
                  show (h2 || (rkN (-14) == 4)) :: tl = _
                  rw [show (rkN (-14) == 4) = true by decide, Bool.or_true]
                show TR _ (lvF (-14 :: s1))
                rw [hlv]
                have := TR_put (h := true) m5.2
                rw [e2] at this
                exact this
              · show t + (st.length - s1.length) + 2 * (s1.length + 1) + 1 ≤ 2 * nxP b n p
                omega
              rintro ⟨w1, w2, w3, w4, w5, w6, w7, w8, w9, w10, w11, w12, w13, w14, w15⟩ hz
              rcases hz with ⟨s', f', z1, z2, z3, z4, z5, z6, z7, z8, z9⟩ | hB
              · exact zwi (.inl ⟨s', f', ⟨rfl, by have z5' : nxP b n p < s'.2.2.2.2.2.2 := z5; omega⟩, z1, z2, z3, z4, z6, z7, z8, z9⟩)
              · exact zwi (.inr (.inr hB))
            | true =>
              subst hfl
              refine zi_f (by rw [hts]; decide) ?_
              have hno : aOper b n (false, bn, nots, dp, st, out, p) = .inr 1 := by
                obtain ⟨r2, j2, a1, a2, a3, a4, a5, a6, a7, a8, a9⟩ := rel_ok (l := 5) (by decide) c1 c6 c7 c9
                obtain ⟨h2, e3, e4⟩ := a8 true tl e1
                obtain ⟨fl2, tl2, e5, e6, e7, e8⟩ := lvF_c a1
                rw [e3] at e5
                injection e5 with e5 e5'
                have hr4 : r2 = 4 := by
                  refine Classical.byContradiction (fun q => ?_)
                  have := e7 (by omega)
                  rw [← e5, e4 (by decide)] at this
                  cases this
                unfold aOper
                dsimp only
                rw [h41, Bool.false_and, if_neg (show ¬ false = true by decide), hx, if_neg (by decide), show opL (rkN (-14)) = 5 by decide, show (decide (rkN (-14) = 4) && tp4 (rel 5 st out).1) = true by
                  rw [decide_eq_true (by decide), Bool.true_and]
                  cases hs : (rel 5 st out).1 with
                  | nil =>
                    rw [hs] at a1
                    have a1' : some (0, 0, 0) = some (dp, r2, j2) := a1
                    injection a1' with a1'
                    injection a1' with q1 q2'
                    injection q2' with q2' q3'
                    omega
                  | cons y s3 =>
                    rw [hs] at a1
                    have ht := chk_top a1
                    exact beq_iff_eq.mpr (by omega), if_pos rfl]
              refine zi_beq (m_sign u4 u5) ?_
              rw [h43]
              refine zi_t rfl ?_
              refine zi_beq (m_sign u4 u5) ?_
              rw [h45]
              refine zi_t rfl ?_
              refine zi_beq (m_sign u4 u5) ?_
              rw [h42]
              refine zi_t rfl ?_
              refine zi_beq (m_sign u4 u5) ?_
              rw [h47]
              refine zi_t rfl ?_
              refine zi_beq (m_sign u4 u5) ?_
              rw [h41]
              refine zi_t rfl ?_
              exact zwi (.inr (.inl ⟨(false, bn, nots, dp, st, out, p), f, ⟨rfl, hno⟩, rfl, rfl, q2, rfl, q4, q5, ⟨⟨rfl, m2, rfl, m4, by rw [e1]; exact m5⟩, g1, t, rfl, g2, g3⟩, ⟨u1, u2, u3, u4, u5, u6, u7⟩⟩))
          by_cases h61 : sgI b n p 61 = true
          · obtain ⟨hk3, hpn, hbp⟩ := sg_pos h61
            have h60 : sgI b n p 60 = false := sg_n h61 (by decide)
            have h43 : sgI b n p 43 = false := sg_n h61 (by decide)
            have h45 : sgI b n p 45 = false := sg_n h61 (by decide)
            have h42 : sgI b n p 42 = false := sg_n h61 (by decide)
            have h47 : sgI b n p 47 = false := sg_n h61 (by decide)
            have h41 : sgI b n p 41 = false := sg_n h61 (by decide)
            have hx : opO b n p = -15 := by
              unfold opO
              rw [n14, n13, if_neg (by decide), if_neg (by decide), if_pos hk3, hbp]
              decide
            refine zi_beq (m_sign u4 u5) ?_
            rw [h60]
            refine zi_t rfl ?_
            refine zi_beq (m_sign u4 u5) ?_
            rw [h61]
            refine zi_f (by decide) ?_
            rw [zbnd_nI (by omega) (by decide), nI_clamp (show dp + 1 < 2 ^ 31 by omega)]
            have hts : x32 (dp + 1) = b2 fl := by rw [← e2]; exact m5.1
            cases hfl : fl with
            | false =>
              subst hfl
              refine zi_t hts ?_
              have h45 := rel_45 (o := out) c1 e1
              have htp4 : (decide (rkN (-15) = 4) && tp4 (rel 5 st out).1) = false := by
                rw [decide_eq_true (by decide), Bool.true_and]
                obtain ⟨r2, j2, a1, a2, a3, a4, a5, a6, a7, a8, a9⟩ := rel_ok (l := 5) (by decide) c1 c6 c7 c9
                obtain ⟨h2, e3, e4⟩ := a8 false tl e1
                obtain ⟨fl2, tl2, e5, e6, e7, e8⟩ := lvF_c a1
                rw [e3] at e5
                injection e5 with e5 e5'
                cases hs : (rel 5 st out).1 with
                | nil => rfl
                | cons y s3 =>
                  rw [hs] at a1
                  have ht := chk_top a1
                  refine beq_false_of_ne (fun h4 => ?_)
                  have := e8 (by omega)
                  rw [← e5, e4 (by decide)] at this
                  cases this
              have hop := aOper_op (nots := nots) (dp := dp) (bn := bn) (st := st) (out := out) (x := -15) (l := 5) (bq := false) h41 hx (by decide) (by decide) htp4 (by decide)
              obtain ⟨r2, j2, a1, a2, a3, a4, a5, a6, a7, a8, a9⟩ := rel_ok (l := 5) (by decide) c1 c6 c7 c9
              refine zi_bind (zwp_mono (m_drops (L := 4) (by omega) (by omega) (by decide) l6 m4 g2 g1) ?_)
              rintro ⟨rc1, tp1, wn1⟩ ⟨d1, d2, d3, d4, d5⟩
              rw [show max 4 1 = 4 from rfl, h45] at d1 d2 d3 d4
              dsimp only at d1 d2 d3 d4 d5 ⊢
              have hok := aOper_ok q2 rfl hop
              have hlt : p < nxP b n p := hok.2
              obtain ⟨g, rfl⟩ : ∃ g, f = g + 1 := ⟨f - 1, by omega⟩
              rw [aSt_op rfl hop] at q5
              obtain ⟨h2, e3, e4⟩ := a8 _ tl e1
              obtain ⟨fl2, tl2, e5, e6, e7, e8⟩ := lvF_c a1
              generalize rel 5 st out = re at a1 a2 a3 a4 a5 a6 a7 a9 d1 d2 d3 d4 hok q5 e3 e5
              obtain ⟨s1, t1⟩ := re
              dsimp only at a1 a2 a3 a4 a5 a6 a7 a9 d1 d2 d3 d4 hok q5 e3 e5
              rw [e3] at e5
              injection e5 with e5 e5'
              refine zi_beq (m_sign u4 u5) ?_
              rw [h60]
              refine zi_beq (a := 7) (if_pos rfl) ?_
              rw [d1]
              refine zi_beq (m_waits (by omega)) ?_
              rw [zbnd_nI (by omega) (by decide)]
              refine zi_bind (zwp_mono (m_gs hn hp htp u2) ?_)
              rintro ⟨v1, v2, v3, v4, v5, v6, v7⟩ hT2
              dsimp only at hT2 ⊢
              refine zi_bind (zwp_mono (m_operand hn htp (f := g) (bn := false) (R := R) (a0 := a0) (rc0 := rc0) hok.1 rfl (by omega) q5 ⟨⟨rfl, m2, rfl, push_stL (x := -15) d2, ?_⟩, d5, _, d3, d4, ?_⟩ hT2) ?_)
              · have hlv : lvF (-15 :: s1) = true :: tl := by
                  have hl2 : lvF (-15 :: s1) = match lvF s1 with
                    | [] => []
                    | h :: t => (h || (rkN (-15) == 4)) :: t := rfl
                  rw [hl2, e3]
                  show (h2 || (rkN (-15) == 4)) :: tl = _
                  rw [show (rkN (-15) == 4) = true by decide, Bool.or_true]
                show TR _ (lvF (-15 :: s1))
                rw [hlv]
                have := TR_put (h := true) m5.2
                rw [e2] at this
                exact this
              · show t + (st.length - s1.length) + 2 * (s1.length + 1) + 1 ≤ 2 * nxP b n p
                omega
              rintro ⟨w1, w2, w3, w4, w5, w6, w7, w8, w9, w10, w11, w12, w13, w14, w15⟩ hz
              rcases hz with ⟨s', f', z1, z2, z3, z4, z5, z6, z7, z8, z9⟩ | hB
              · exact zwi (.inl ⟨s', f', ⟨rfl, by have z5' : nxP b n p < s'.2.2.2.2.2.2 := z5; omega⟩, z1, z2, z3, z4, z6, z7, z8, z9⟩)
              · exact zwi (.inr (.inr hB))
            | true =>
              subst hfl
              refine zi_f (by rw [hts]; decide) ?_
              have hno : aOper b n (false, bn, nots, dp, st, out, p) = .inr 1 := by
                obtain ⟨r2, j2, a1, a2, a3, a4, a5, a6, a7, a8, a9⟩ := rel_ok (l := 5) (by decide) c1 c6 c7 c9
                obtain ⟨h2, e3, e4⟩ := a8 true tl e1
                obtain ⟨fl2, tl2, e5, e6, e7, e8⟩ := lvF_c a1
                rw [e3] at e5
                injection e5 with e5 e5'
                have hr4 : r2 = 4 := by
                  refine Classical.byContradiction (fun q => ?_)
                  have := e7 (by omega)
                  rw [← e5, e4 (by decide)] at this
                  cases this
                unfold aOper
                dsimp only
                rw [h41, Bool.false_and, if_neg (show ¬ false = true by decide), hx, if_neg (by decide), show opL (rkN (-15)) = 5 by decide, show (decide (rkN (-15) = 4) && tp4 (rel 5 st out).1) = true by
                  rw [decide_eq_true (by decide), Bool.true_and]
                  cases hs : (rel 5 st out).1 with
                  | nil =>
                    rw [hs] at a1
                    have a1' : some (0, 0, 0) = some (dp, r2, j2) := a1
                    injection a1' with a1'
                    injection a1' with q1 q2'
                    injection q2' with q2' q3'
                    omega
                  | cons y s3 =>
                    rw [hs] at a1
                    have ht := chk_top a1
                    exact beq_iff_eq.mpr (by omega), if_pos rfl]
              refine zi_beq (m_sign u4 u5) ?_
              rw [h43]
              refine zi_t rfl ?_
              refine zi_beq (m_sign u4 u5) ?_
              rw [h45]
              refine zi_t rfl ?_
              refine zi_beq (m_sign u4 u5) ?_
              rw [h42]
              refine zi_t rfl ?_
              refine zi_beq (m_sign u4 u5) ?_
              rw [h47]
              refine zi_t rfl ?_
              refine zi_beq (m_sign u4 u5) ?_
              rw [h41]
              refine zi_t rfl ?_
              exact zwi (.inr (.inl ⟨(false, bn, nots, dp, st, out, p), f, ⟨rfl, hno⟩, rfl, rfl, q2, rfl, q4, q5, ⟨⟨rfl, m2, rfl, m4, by rw [e1]; exact m5⟩, g1, t, rfl, g2, g3⟩, ⟨u1, u2, u3, u4, u5, u6, u7⟩⟩))
          by_cases h43 : sgI b n p 43 = true
          · obtain ⟨hk3, hpn, hbp⟩ := sg_pos h43
            have h60 : sgI b n p 60 = false := sg_n h43 (by decide)
            have h61 : sgI b n p 61 = false := sg_n h43 (by decide)
            have h45 : sgI b n p 45 = false := sg_n h43 (by decide)
            have h42 : sgI b n p 42 = false := sg_n h43 (by decide)
            have h47 : sgI b n p 47 = false := sg_n h43 (by decide)
            have h41 : sgI b n p 41 = false := sg_n h43 (by decide)
            have hx : opO b n p = -16 := by
              unfold opO
              rw [n14, n13, if_neg (by decide), if_neg (by decide), if_pos hk3, hbp]
              decide
            refine zi_beq (m_sign u4 u5) ?_
            rw [h60]
            refine zi_t rfl ?_
            refine zi_beq (m_sign u4 u5) ?_
            rw [h61]
            refine zi_t rfl ?_
            refine zi_beq (m_sign u4 u5) ?_
            rw [h43]
            refine zi_f (by decide) ?_
            have hop := aOper_op (nots := nots) (dp := dp) (bn := bn) (st := st) (out := out) (x := -16) (l := 5) (bq := false) h41 hx (by decide) (by decide) (by rw [decide_eq_false (by decide)]; rfl) (by decide)
            obtain ⟨r2, j2, a1, a2, a3, a4, a5, a6, a7, a8, a9⟩ := rel_ok (l := 5) (by decide) c1 c6 c7 c9
            refine zi_bind (zwp_mono (m_drops (L := 5) (by omega) (by omega) (by decide) l6 m4 g2 g1) ?_)
            rintro ⟨rc1, tp1, wn1⟩ ⟨d1, d2, d3, d4, d5⟩
            rw [show max 5 1 = 5 from rfl] at d1 d2 d3 d4
            dsimp only at d1 d2 d3 d4 d5 ⊢
            have hok := aOper_ok q2 rfl hop
            have hlt : p < nxP b n p := hok.2
            obtain ⟨g, rfl⟩ : ∃ g, f = g + 1 := ⟨f - 1, by omega⟩
            rw [aSt_op rfl hop] at q5
            obtain ⟨h2, e3, e4⟩ := a8 _ tl e1
            obtain ⟨fl2, tl2, e5, e6, e7, e8⟩ := lvF_c a1
            generalize rel 5 st out = re at a1 a2 a3 a4 a5 a6 a7 a9 d1 d2 d3 d4 hok q5 e3 e5
            obtain ⟨s1, t1⟩ := re
            dsimp only at a1 a2 a3 a4 a5 a6 a7 a9 d1 d2 d3 d4 hok q5 e3 e5
            rw [e3] at e5
            injection e5 with e5 e5'
            refine zi_beq (m_sign u4 u5) ?_
            rw [h43]
            refine zi_beq (a := 8) (if_neg (by decide)) ?_
            rw [d1]
            refine zi_beq (m_waits (by omega)) ?_
            refine zi_bind (zwp_mono (m_gs hn hp htp u2) ?_)
            rintro ⟨v1, v2, v3, v4, v5, v6, v7⟩ hT2
            dsimp only at hT2 ⊢
            refine zi_bind (zwp_mono (m_operand hn htp (f := g) (bn := false) (R := R) (a0 := a0) (rc0 := rc0) hok.1 rfl (by omega) q5 ⟨⟨rfl, m2, rfl, push_stL (x := -16) d2, ?_⟩, d5, _, d3, d4, ?_⟩ hT2) ?_)
            · have hlv : lvF (-16 :: s1) = fl :: tl := by
                have hl2 : lvF (-16 :: s1) = match lvF s1 with
                  | [] => []
                  | h :: t => (h || (rkN (-16) == 4)) :: t := rfl
                rw [hl2, e3]
                show (h2 || (rkN (-16) == 4)) :: tl = _
                rw [e4 (by decide), show (rkN (-16) == 4) = false by decide, Bool.or_false]
              show TR _ (lvF (-16 :: s1))
              rw [hlv]
              exact m5
            · show t + (st.length - s1.length) + 2 * (s1.length + 1) + 1 ≤ 2 * nxP b n p
              omega
            rintro ⟨w1, w2, w3, w4, w5, w6, w7, w8, w9, w10, w11, w12, w13, w14, w15⟩ hz
            rcases hz with ⟨s', f', z1, z2, z3, z4, z5, z6, z7, z8, z9⟩ | hB
            · exact zwi (.inl ⟨s', f', ⟨rfl, by have z5' : nxP b n p < s'.2.2.2.2.2.2 := z5; omega⟩, z1, z2, z3, z4, z6, z7, z8, z9⟩)
            · exact zwi (.inr (.inr hB))
          by_cases h45 : sgI b n p 45 = true
          · obtain ⟨hk3, hpn, hbp⟩ := sg_pos h45
            have h60 : sgI b n p 60 = false := sg_n h45 (by decide)
            have h61 : sgI b n p 61 = false := sg_n h45 (by decide)
            have h43 : sgI b n p 43 = false := sg_n h45 (by decide)
            have h42 : sgI b n p 42 = false := sg_n h45 (by decide)
            have h47 : sgI b n p 47 = false := sg_n h45 (by decide)
            have h41 : sgI b n p 41 = false := sg_n h45 (by decide)
            have hx : opO b n p = -17 := by
              unfold opO
              rw [n14, n13, if_neg (by decide), if_neg (by decide), if_pos hk3, hbp]
              decide
            refine zi_beq (m_sign u4 u5) ?_
            rw [h60]
            refine zi_t rfl ?_
            refine zi_beq (m_sign u4 u5) ?_
            rw [h61]
            refine zi_t rfl ?_
            refine zi_beq (m_sign u4 u5) ?_
            rw [h43]
            refine zi_t rfl ?_
            refine zi_beq (m_sign u4 u5) ?_
            rw [h45]
            refine zi_f (by decide) ?_
            have hop := aOper_op (nots := nots) (dp := dp) (bn := bn) (st := st) (out := out) (x := -17) (l := 5) (bq := false) h41 hx (by decide) (by decide) (by rw [decide_eq_false (by decide)]; rfl) (by decide)
            obtain ⟨r2, j2, a1, a2, a3, a4, a5, a6, a7, a8, a9⟩ := rel_ok (l := 5) (by decide) c1 c6 c7 c9
            refine zi_bind (zwp_mono (m_drops (L := 5) (by omega) (by omega) (by decide) l6 m4 g2 g1) ?_)
            rintro ⟨rc1, tp1, wn1⟩ ⟨d1, d2, d3, d4, d5⟩
            rw [show max 5 1 = 5 from rfl] at d1 d2 d3 d4
            dsimp only at d1 d2 d3 d4 d5 ⊢
            have hok := aOper_ok q2 rfl hop
            have hlt : p < nxP b n p := hok.2
            obtain ⟨g, rfl⟩ : ∃ g, f = g + 1 := ⟨f - 1, by omega⟩
            rw [aSt_op rfl hop] at q5
            obtain ⟨h2, e3, e4⟩ := a8 _ tl e1
            obtain ⟨fl2, tl2, e5, e6, e7, e8⟩ := lvF_c a1
            generalize rel 5 st out = re at a1 a2 a3 a4 a5 a6 a7 a9 d1 d2 d3 d4 hok q5 e3 e5
            obtain ⟨s1, t1⟩ := re
            dsimp only at a1 a2 a3 a4 a5 a6 a7 a9 d1 d2 d3 d4 hok q5 e3 e5
            rw [e3] at e5
            injection e5 with e5 e5'
            refine zi_beq (m_sign u4 u5) ?_
            rw [h43]
            refine zi_beq (a := 9) (if_pos rfl) ?_
            rw [d1]
            refine zi_beq (m_waits (by omega)) ?_
            refine zi_bind (zwp_mono (m_gs hn hp htp u2) ?_)
            rintro ⟨v1, v2, v3, v4, v5, v6, v7⟩ hT2
            dsimp only at hT2 ⊢
            refine zi_bind (zwp_mono (m_operand hn htp (f := g) (bn := false) (R := R) (a0 := a0) (rc0 := rc0) hok.1 rfl (by omega) q5 ⟨⟨rfl, m2, rfl, push_stL (x := -17) d2, ?_⟩, d5, _, d3, d4, ?_⟩ hT2) ?_)
            · have hlv : lvF (-17 :: s1) = fl :: tl := by
                have hl2 : lvF (-17 :: s1) = match lvF s1 with
                  | [] => []
                  | h :: t => (h || (rkN (-17) == 4)) :: t := rfl
                rw [hl2, e3]
                show (h2 || (rkN (-17) == 4)) :: tl = _
                rw [e4 (by decide), show (rkN (-17) == 4) = false by decide, Bool.or_false]
              show TR _ (lvF (-17 :: s1))
              rw [hlv]
              exact m5
            · show t + (st.length - s1.length) + 2 * (s1.length + 1) + 1 ≤ 2 * nxP b n p
              omega
            rintro ⟨w1, w2, w3, w4, w5, w6, w7, w8, w9, w10, w11, w12, w13, w14, w15⟩ hz
            rcases hz with ⟨s', f', z1, z2, z3, z4, z5, z6, z7, z8, z9⟩ | hB
            · exact zwi (.inl ⟨s', f', ⟨rfl, by have z5' : nxP b n p < s'.2.2.2.2.2.2 := z5; omega⟩, z1, z2, z3, z4, z6, z7, z8, z9⟩)
            · exact zwi (.inr (.inr hB))
          by_cases h42 : sgI b n p 42 = true
          · obtain ⟨hk3, hpn, hbp⟩ := sg_pos h42
            have h60 : sgI b n p 60 = false := sg_n h42 (by decide)
            have h61 : sgI b n p 61 = false := sg_n h42 (by decide)
            have h43 : sgI b n p 43 = false := sg_n h42 (by decide)
            have h45 : sgI b n p 45 = false := sg_n h42 (by decide)
            have h47 : sgI b n p 47 = false := sg_n h42 (by decide)
            have h41 : sgI b n p 41 = false := sg_n h42 (by decide)
            have hx : opO b n p = -18 := by
              unfold opO
              rw [n14, n13, if_neg (by decide), if_neg (by decide), if_pos hk3, hbp]
              decide
            refine zi_beq (m_sign u4 u5) ?_
            rw [h60]
            refine zi_t rfl ?_
            refine zi_beq (m_sign u4 u5) ?_
            rw [h61]
            refine zi_t rfl ?_
            refine zi_beq (m_sign u4 u5) ?_
            rw [h43]
            refine zi_t rfl ?_
            refine zi_beq (m_sign u4 u5) ?_
            rw [h45]
            refine zi_t rfl ?_
            refine zi_beq (m_sign u4 u5) ?_
            rw [h42]
            refine zi_f (by decide) ?_
            have hop := aOper_op (nots := nots) (dp := dp) (bn := bn) (st := st) (out := out) (x := -18) (l := 6) (bq := false) h41 hx (by decide) (by decide) (by rw [decide_eq_false (by decide)]; rfl) (by decide)
            obtain ⟨r2, j2, a1, a2, a3, a4, a5, a6, a7, a8, a9⟩ := rel_ok (l := 6) (by decide) c1 c6 c7 c9
            refine zi_bind (zwp_mono (m_drops (L := 6) (by omega) (by omega) (by decide) l6 m4 g2 g1) ?_)
            rintro ⟨rc1, tp1, wn1⟩ ⟨d1, d2, d3, d4, d5⟩
            rw [show max 6 1 = 6 from rfl] at d1 d2 d3 d4
            dsimp only at d1 d2 d3 d4 d5 ⊢
            have hok := aOper_ok q2 rfl hop
            have hlt : p < nxP b n p := hok.2
            obtain ⟨g, rfl⟩ : ∃ g, f = g + 1 := ⟨f - 1, by omega⟩
            rw [aSt_op rfl hop] at q5
            obtain ⟨h2, e3, e4⟩ := a8 _ tl e1
            obtain ⟨fl2, tl2, e5, e6, e7, e8⟩ := lvF_c a1
            generalize rel 6 st out = re at a1 a2 a3 a4 a5 a6 a7 a9 d1 d2 d3 d4 hok q5 e3 e5
            obtain ⟨s1, t1⟩ := re
            dsimp only at a1 a2 a3 a4 a5 a6 a7 a9 d1 d2 d3 d4 hok q5 e3 e5
            rw [e3] at e5
            injection e5 with e5 e5'
            refine zi_beq (m_sign u4 u5) ?_
            rw [h42]
            refine zi_beq (a := 10) (if_neg (by decide)) ?_
            rw [d1]
            refine zi_beq (m_waits (by omega)) ?_
            refine zi_bind (zwp_mono (m_gs hn hp htp u2) ?_)
            rintro ⟨v1, v2, v3, v4, v5, v6, v7⟩ hT2
            dsimp only at hT2 ⊢
            refine zi_bind (zwp_mono (m_operand hn htp (f := g) (bn := false) (R := R) (a0 := a0) (rc0 := rc0) hok.1 rfl (by omega) q5 ⟨⟨rfl, m2, rfl, push_stL (x := -18) d2, ?_⟩, d5, _, d3, d4, ?_⟩ hT2) ?_)
            · have hlv : lvF (-18 :: s1) = fl :: tl := by
                have hl2 : lvF (-18 :: s1) = match lvF s1 with
                  | [] => []
                  | h :: t => (h || (rkN (-18) == 4)) :: t := rfl
                rw [hl2, e3]
                show (h2 || (rkN (-18) == 4)) :: tl = _
                rw [e4 (by decide), show (rkN (-18) == 4) = false by decide, Bool.or_false]
              show TR _ (lvF (-18 :: s1))
              rw [hlv]
              exact m5
            · show t + (st.length - s1.length) + 2 * (s1.length + 1) + 1 ≤ 2 * nxP b n p
              omega
            rintro ⟨w1, w2, w3, w4, w5, w6, w7, w8, w9, w10, w11, w12, w13, w14, w15⟩ hz
            rcases hz with ⟨s', f', z1, z2, z3, z4, z5, z6, z7, z8, z9⟩ | hB
            · exact zwi (.inl ⟨s', f', ⟨rfl, by have z5' : nxP b n p < s'.2.2.2.2.2.2 := z5; omega⟩, z1, z2, z3, z4, z6, z7, z8, z9⟩)
            · exact zwi (.inr (.inr hB))
          by_cases h47 : sgI b n p 47 = true
          · obtain ⟨hk3, hpn, hbp⟩ := sg_pos h47
            have h60 : sgI b n p 60 = false := sg_n h47 (by decide)
            have h61 : sgI b n p 61 = false := sg_n h47 (by decide)
            have h43 : sgI b n p 43 = false := sg_n h47 (by decide)
            have h45 : sgI b n p 45 = false := sg_n h47 (by decide)
            have h42 : sgI b n p 42 = false := sg_n h47 (by decide)
            have h41 : sgI b n p 41 = false := sg_n h47 (by decide)
            have hx : opO b n p = -19 := by
              unfold opO
              rw [n14, n13, if_neg (by decide), if_neg (by decide), if_pos hk3, hbp]
              decide
            refine zi_beq (m_sign u4 u5) ?_
            rw [h60]
            refine zi_t rfl ?_
            refine zi_beq (m_sign u4 u5) ?_
            rw [h61]
            refine zi_t rfl ?_
            refine zi_beq (m_sign u4 u5) ?_
            rw [h43]
            refine zi_t rfl ?_
            refine zi_beq (m_sign u4 u5) ?_
            rw [h45]
            refine zi_t rfl ?_
            refine zi_beq (m_sign u4 u5) ?_
            rw [h42]
            refine zi_t rfl ?_
            refine zi_beq (m_sign u4 u5) ?_
            rw [h47]
            refine zi_f (by decide) ?_
            have hop := aOper_op (nots := nots) (dp := dp) (bn := bn) (st := st) (out := out) (x := -19) (l := 6) (bq := false) h41 hx (by decide) (by decide) (by rw [decide_eq_false (by decide)]; rfl) (by decide)
            obtain ⟨r2, j2, a1, a2, a3, a4, a5, a6, a7, a8, a9⟩ := rel_ok (l := 6) (by decide) c1 c6 c7 c9
            refine zi_bind (zwp_mono (m_drops (L := 6) (by omega) (by omega) (by decide) l6 m4 g2 g1) ?_)
            rintro ⟨rc1, tp1, wn1⟩ ⟨d1, d2, d3, d4, d5⟩
            rw [show max 6 1 = 6 from rfl] at d1 d2 d3 d4
            dsimp only at d1 d2 d3 d4 d5 ⊢
            have hok := aOper_ok q2 rfl hop
            have hlt : p < nxP b n p := hok.2
            obtain ⟨g, rfl⟩ : ∃ g, f = g + 1 := ⟨f - 1, by omega⟩
            rw [aSt_op rfl hop] at q5
            obtain ⟨h2, e3, e4⟩ := a8 _ tl e1
            obtain ⟨fl2, tl2, e5, e6, e7, e8⟩ := lvF_c a1
            generalize rel 6 st out = re at a1 a2 a3 a4 a5 a6 a7 a9 d1 d2 d3 d4 hok q5 e3 e5
            obtain ⟨s1, t1⟩ := re
            dsimp only at a1 a2 a3 a4 a5 a6 a7 a9 d1 d2 d3 d4 hok q5 e3 e5
            rw [e3] at e5
            injection e5 with e5 e5'
            refine zi_beq (m_sign u4 u5) ?_
            rw [h42]
            refine zi_beq (a := 11) (if_pos rfl) ?_
            rw [d1]
            refine zi_beq (m_waits (by omega)) ?_
            refine zi_bind (zwp_mono (m_gs hn hp htp u2) ?_)
            rintro ⟨v1, v2, v3, v4, v5, v6, v7⟩ hT2
            dsimp only at hT2 ⊢
            refine zi_bind (zwp_mono (m_operand hn htp (f := g) (bn := false) (R := R) (a0 := a0) (rc0 := rc0) hok.1 rfl (by omega) q5 ⟨⟨rfl, m2, rfl, push_stL (x := -19) d2, ?_⟩, d5, _, d3, d4, ?_⟩ hT2) ?_)
            · have hlv : lvF (-19 :: s1) = fl :: tl := by
                have hl2 : lvF (-19 :: s1) = match lvF s1 with
                  | [] => []
                  | h :: t => (h || (rkN (-19) == 4)) :: t := rfl
                rw [hl2, e3]
                show (h2 || (rkN (-19) == 4)) :: tl = _
                rw [e4 (by decide), show (rkN (-19) == 4) = false by decide, Bool.or_false]
              show TR _ (lvF (-19 :: s1))
              rw [hlv]
              exact m5
            · show t + (st.length - s1.length) + 2 * (s1.length + 1) + 1 ≤ 2 * nxP b n p
              omega
            rintro ⟨w1, w2, w3, w4, w5, w6, w7, w8, w9, w10, w11, w12, w13, w14, w15⟩ hz
            rcases hz with ⟨s', f', z1, z2, z3, z4, z5, z6, z7, z8, z9⟩ | hB
            · exact zwi (.inl ⟨s', f', ⟨rfl, by have z5' : nxP b n p < s'.2.2.2.2.2.2 := z5; omega⟩, z1, z2, z3, z4, z6, z7, z8, z9⟩)
            · exact zwi (.inr (.inr hB))
          by_cases h41 : sgI b n p 41 = true
          · obtain ⟨hk3, hpn, hbp⟩ := sg_pos h41
            have h60 : sgI b n p 60 = false := sg_n h41 (by decide)
            have h61 : sgI b n p 61 = false := sg_n h41 (by decide)
            have h43 : sgI b n p 43 = false := sg_n h41 (by decide)
            have h45 : sgI b n p 45 = false := sg_n h41 (by decide)
            have h42 : sgI b n p 42 = false := sg_n h41 (by decide)
            have h47 : sgI b n p 47 = false := sg_n h41 (by decide)
            refine zi_beq (m_sign u4 u5) ?_
            rw [h60]
            refine zi_t rfl ?_
            refine zi_beq (m_sign u4 u5) ?_
            rw [h61]
            refine zi_t rfl ?_
            refine zi_beq (m_sign u4 u5) ?_
            rw [h43]
            refine zi_t rfl ?_
            refine zi_beq (m_sign u4 u5) ?_
            rw [h45]
            refine zi_t rfl ?_
            refine zi_beq (m_sign u4 u5) ?_
            rw [h42]
            refine zi_t rfl ?_
            refine zi_beq (m_sign u4 u5) ?_
            rw [h47]
            refine zi_t rfl ?_
            refine zi_beq (m_sign u4 u5) ?_
            rw [h41]
            refine zi_f (by decide) ?_
            refine zi_bind (zwp_mono (m_isOpened c1 (by omega) m4) ?_)
            rintro _ rfl
            by_cases hd : 0 < dp
            · rw [decide_eq_true hd]
              refine zi_f (by decide) ?_
              have hop : aOper b n (false, bn, nots, dp, st, out, p) = .inl (false, bn, nots, dp - 1, (rel 1 st out).1.tail, (rel 1 st out).2, nxP b n p) := by
                unfold aOper
                dsimp only
                rw [h41, decide_eq_true hd, Bool.true_and, if_pos rfl]
              obtain ⟨r2, j2, a1, a2, a3, a4, a5, a6, a7, a8, a9⟩ := rel_ok (l := 1) (by decide) c1 c6 c7 c9
              have hok := aOper_ok q2 rfl hop
              have hlt : p < nxP b n p := hok.2
              obtain ⟨g, rfl⟩ : ∃ g, f = g + 1 := ⟨f - 1, by omega⟩
              rw [aSt_op rfl hop] at q5
              unfold f_X12_closes
              refine zi_bind (zi_bind (zwp_mono (m_drops (L := 0) (by omega) (by omega) (by decide) l6 m4 g2 g1) ?_))
              rintro ⟨rc1, tp1, wn1⟩ ⟨d1, d2, d3, d4, d5⟩
              rw [show max 0 1 = 1 from rfl] at d1 d2 d3 d4
              dsimp only at d1 d2 d3 d4 d5 ⊢
              obtain ⟨h2, e3, e4⟩ := a8 _ tl e1
              refine zi_bind (zwp_mono (m_gs hn hp htp u2) ?_)
              rintro ⟨v1, v2, v3, v4, v5, v6, v7⟩ hT2
              generalize rel 1 st out = re at a1 a2 a3 a4 a5 a6 a7 a9 d1 d2 d3 d4 hok q5 e3
              obtain ⟨s1, t1⟩ := re
              dsimp only at a1 a2 a3 a4 a5 a6 a7 a9 d1 d2 d3 d4 hok q5 e3 hT2 ⊢
              cases s1 with
              | nil =>
                have a1' : some (0, 0, 0) = some (dp, r2, j2) := a1
                injection a1' with a1'
                injection a1' with q1 q2'
                omega
              | cons y s3 =>
                have ht := chk_top a1
                have hy : y = -20 := by
                  obtain ⟨d3', r3, j3, e9, hc⟩ := chk_c a1
                  rcases hc with ⟨hx20, hq⟩ | ⟨hx13, _, _, hq⟩ | ⟨n1, n2, k1, k2, hq⟩
                  · exact hx20
                  · rw [hx13, rk_13] at ht; omega
                  · omega
                subst hy
                obtain ⟨_, d2'⟩ := map_stL d2
                have e3' : false :: lvF s3 = h2 :: tl := e3
                injection e3' with _ e3'
                rw [List.length_cons] at d1 d3 d4 a7
                refine zwi (zwi (.inl ⟨(false, bn, nots, dp - 1, s3, t1, nxP b n p), g, ⟨rfl, by show i + 1 + 1 ≤ nxP b n p; omega⟩, rfl, rfl, hok.1, rfl, by show n < nxP b n p + g; omega, q5, ⟨⟨?_, by show dp - 1 ≤ 5; omega, ?_, d2', by show TR x32 (lvF s3); rw [e3']; exact m5.2⟩, d5, _, d3, d4, ?_⟩, hT2⟩))
                · show nI (dp + 1) - 1 = nI (dp - 1 + 1)
                  rw [nI_s1, show dp - 1 + 1 = dp by omega]
                · show wn1 - 1 = nI s3.length
                  rw [d1, nI_s1]
                · show t + (st.length - (s3.length + 1)) + 2 * s3.length + 1 ≤ 2 * nxP b n p
                  omega
            · rw [decide_eq_false hd]
              refine zi_t rfl ?_
              have hd0 : dp = 0 := by omega
              have hx : opO b n p = -1 := by
                unfold opO
                rw [n14, n13, if_neg (by decide), if_neg (by decide), if_pos hk3, hbp]
                decide
              have hno : aOper b n (false, bn, nots, dp, st, out, p) = .inr 1 := aOper_no (.inr hd0) hx
              exact zwi (.inr (.inl ⟨(false, bn, nots, dp, st, out, p), f, ⟨rfl, hno⟩, rfl, rfl, q2, rfl, q4, q5, ⟨⟨rfl, m2, rfl, m4, by rw [e1]; exact m5⟩, g1, t, rfl, g2, g3⟩, ⟨u1, u2, u3, u4, u5, u6, u7⟩⟩))
          have hf : ∀ c, ¬ sgI b n p c = true → sgI b n p c = false := fun c h => by
            cases hq : sgI b n p c with
            | true => exact absurd hq h
            | false => rfl
          replace h60 := hf 60 h60
          replace h61 := hf 61 h61
          replace h43 := hf 43 h43
          replace h45 := hf 45 h45
          replace h42 := hf 42 h42
          replace h47 := hf 47 h47
          replace h41 := hf 41 h41
          refine zi_beq (m_sign u4 u5) ?_
          rw [h60]
          refine zi_t rfl ?_
          refine zi_beq (m_sign u4 u5) ?_
          rw [h61]
          refine zi_t rfl ?_
          refine zi_beq (m_sign u4 u5) ?_
          rw [h43]
          refine zi_t rfl ?_
          refine zi_beq (m_sign u4 u5) ?_
          rw [h45]
          refine zi_t rfl ?_
          refine zi_beq (m_sign u4 u5) ?_
          rw [h42]
          refine zi_t rfl ?_
          refine zi_beq (m_sign u4 u5) ?_
          rw [h47]
          refine zi_t rfl ?_
          refine zi_beq (m_sign u4 u5) ?_
          rw [h41]
          refine zi_t rfl ?_
          have hx : opO b n p = -1 := by
            unfold opO
            rw [n14, n13, if_neg (by decide), if_neg (by decide)]
            by_cases hk3 : tK b n p = 3
            · rw [if_pos hk3]
              have hne : ∀ c, sgI b n p c = false → ¬ b p = c := fun c h q => by
                unfold sgI at h
                rw [decide_eq_true hk3, q, beq_self_eq_true] at h
                cases h
              rw [if_neg (hne 42 h42), if_neg (hne 43 h43), if_neg (hne 45 h45), if_neg (hne 47 h47), if_neg (hne 60 h60), if_neg (hne 61 h61)]
            · rw [if_neg hk3]
          have hno : aOper b n (false, bn, nots, dp, st, out, p) = .inr 1 := aOper_no (.inl h41) hx
          exact zwi (.inr (.inl ⟨(false, bn, nots, dp, st, out, p), f, ⟨rfl, hno⟩, rfl, rfl, q2, rfl, q4, q5, ⟨⟨rfl, m2, rfl, m4, by rw [e1]; exact m5⟩, g1, t, rfl, g2, g3⟩, ⟨u1, u2, u3, u4, u5, u6, u7⟩⟩))
    · subst q0
      exact zi_t rfl (zwi (.inl ⟨s, f, q1, q01, q02, q2, q3, q4, q5, q6, q7⟩))
    · refine zi_c (fun q => zwi (.inr hB)) (fun q => ?_)
      exact zi_beq (isGood0 hB) (zi_t rfl (zwi (.inr hB)))
  · rintro ⟨x21, x23, x24, x25, x26, x27, x28, x29, x30, x31, x32, x33, x34, x35, x36, x37⟩ hP
    dsimp only at hP
    rcases hP with ⟨s, f, ⟨q0, q1⟩, q01, q02, q2, _⟩ | ⟨s, f, ⟨q0, q1⟩, q01, q02, q2, q3, q4, q5, q6, q7⟩ | hB
    · obtain ⟨r, j, c1, c2, c3, c4, _⟩ := q2
      omega
    · subst q0
      exact zi_t rfl (zwi (.inl ⟨s, f, q1, q01, q02, q2, q3, q4, q5, q6, q7⟩))
    · refine zi_c (fun q => zwi (.inr hB)) (fun q => ?_)
      exact zi_beq (isGood0 hB) (zi_t rfl (zwi (.inr hB)))
  · rintro ⟨y40, y41, y42, y43, y44, y45, y46, y47, y48, y49, y50, y51, y52, y53, y54⟩ hP
    dsimp only at hP ⊢
    rcases hP with ⟨s, f, hno, q01, q02, q2, q3, q4, q5, ⟨⟨m1, m2, m3, m4, m5⟩, g1, t, gt, g2, g3⟩, hT2⟩ | hB
    · subst q01 q02 gt m3
      refine zi_beq (a := 1) rfl ?_
      have hlen := q2.len
      obtain ⟨r, j, c1, c2, c3, hp, c5, c6, c7, c8, c9⟩ := q2
      rw [q3, if_neg (show ¬ false = true by decide)] at c7
      obtain ⟨l1, l2, l3, l4, l5, l6⟩ := chk_len c1
      obtain ⟨g, rfl⟩ : ∃ g, f = g + 1 := ⟨f - 1, by omega⟩
      rw [aSt_opR q3 hno] at q5
      by_cases hd : s.2.2.2.1 = 0
      · refine zi_bind (zi_f (by decide) (zi_t (by rw [m1, hd]; decide) (zwi ?_)))
        obtain ⟨r2, j2, a1, a2, a3, a4, a5, a6, a7, a8, a9⟩ := rel_ok (l := 1) (by decide) c1 c6 c7 c9
        refine zi_bind (zwp_mono (m_drops (L := 0) (by omega) (by omega) (by decide) l6 m4 g2 g1) ?_)
        rintro ⟨rc1, tp1, wn1⟩ ⟨d1, d2, d3, d4, d5⟩
        rw [show max 0 1 = 1 from rfl] at d1 d2 d3 d4
        dsimp only at d1 d2 d3 d4 d5 ⊢
        rw [d3]
        refine zi_beq (m_puts (by omega)) (zwi (.inl ⟨rfl, rfl, ?_, ?_⟩))
        · have hRp : R.2.1 = s.2.2.2.2.2.2 := by rw [← q5]; split <;> rfl
          rw [hRp]; exact hT2
        · cases h59 : sgI b n s.2.2.2.2.2.2 59 with
          | true =>
            rw [if_pos ⟨hd, h59⟩] at q5
            subst q5
            have hge := CRL_ge d4
            refine .inl ⟨rfl, _, rfl, CRL_fr d4 (fun j hj => pk_un (by omega)), pk_us, by omega, ?_, fun j hj => ?_⟩
            · show t + (s.2.2.2.2.1.length - (rel 1 s.2.2.2.2.1 s.2.2.2.2.2.1).1.length) + 1 ≤ 2 * s.2.2.2.2.2.2
              omega
            · show upd rc1 _ 0 j = rc0 j
              rw [pk_un (by omega)]; exact d5 j hj
          | false =>
            rw [if_neg (fun q => by rw [h59] at q; cases q.2)] at q5
            subst q5
            exact .inr ⟨rfl, h59⟩
      · refine zi_bind (zi_f (by decide) (zi_f (by rw [m1, show (1 : Int32) = nI 1 from rfl]; exact nI_ge (by omega) (by omega)) (zi_beq m_wrong0 (zwi ?_))))
        rw [if_neg (fun q => hd q.1)] at q5
        subst q5
        refine zi_bind (zwp_mono (m_dropsB (by omega) (by omega)) ?_)
        rintro ⟨rc1, tp1, wn1⟩ ⟨t', d1, d2⟩
        dsimp only at d1
        rw [d1]
        refine zi_beq (m_puts d2) (zwi (.inr ⟨rfl, hT2.2.2.1, Nat.le_refl _, by show 1 ≤ 3; decide⟩))
    · refine zi_beq (isGood0 hB) ?_
      refine zi_bind (zi_t rfl (zwi ?_))
      obtain ⟨b1, b2', b3, b4, w, t, b5, b6, b7, b8⟩ := hB
      rw [b5, b6]
      refine zi_bind (zwp_mono (m_dropsB b7 b8) ?_)
      rintro ⟨rc1, tp1, wn1⟩ ⟨t', d1, d2⟩
      dsimp only at d1
      rw [d1]
      exact zi_beq (m_puts d2) (zwi (.inr ⟨b1, b2', b3, b4⟩))
