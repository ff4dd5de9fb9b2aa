/-! READING RULES: an operand of the reference -/
theorem isGood0 {R : RR3} {fk fp wn tp : Int32} (h : Bad R fk fp wn tp) : f_X12_isGood fk = some 0 := by
  obtain ⟨b1, b2', b3, b4, b5⟩ := h
  unfold f_X12_isGood
  rw [if_neg (fun e => by rw [b1] at e; have := (nI_z0 (n := R.1) (by omega)).mp e; omega)]
theorem nar0 : vp_nar .boolean (0 : Int32) = 0 := rfl
theorem nar1 : vp_nar .boolean (1 : Int32) = 1 := rfl
theorem m_operand {b tape rc0 : Nat → Int32} {n a0 : Nat} {oh : Bool} {R : RR3} (hn : n ≤ 700) (htp : ∀ k, k < n → tape k = b k) {nots dp p f : Nat} {bn : Bool} {st out : List Int32} {dpm l0 nx pl sg so va wn tp : Int32} {wd : Int64} {ws ts rc : Nat → Int32} (hI : AI n (true, bn, nots, dp, st, out, p)) (h0 : nots = 0) (hf : n < p + f) (hR : aGo b n oh f (true, bn, nots, dp, st, out, p) = R) (hM : MA a0 rc0 (true, bn, nots, dp, st, out, p) dpm wn ws ts rc tp) (hT : MTok b n p l0 nx pl sg so va wd) : zwp (f_X12_operand (b2 bn) dpm 0 (-1) (fV oh) (lV oh) l0 (nI n) nx pl rc sg so tape ts tp va wn ws wd) (fun r => (∃ s f, r.2.1 = 0 ∧ r.2.2.1 = -1 ∧ AI n s ∧ s.1 = false ∧ p < s.2.2.2.2.2.2 ∧ n < s.2.2.2.2.2.2 + f ∧ aGo b n oh f s = R ∧ MA a0 rc0 s r.1 r.2.2.2.2.2.2.2.2.2.2.2.2.1 r.2.2.2.2.2.2.2.2.2.2.2.2.2.1 r.2.2.2.2.2.2.2.2.2.1 r.2.2.2.2.2.2.1 r.2.2.2.2.2.2.2.2.2.2.1 ∧ MTok b n s.2.2.2.2.2.2 r.2.2.2.1 r.2.2.2.2.1 r.2.2.2.2.2.1 r.2.2.2.2.2.2.2.1 r.2.2.2.2.2.2.2.2.1 r.2.2.2.2.2.2.2.2.2.2.2.1 r.2.2.2.2.2.2.2.2.2.2.2.2.2.2) ∨ Bad R r.2.1 r.2.2.1 r.2.2.2.2.2.2.2.2.2.2.2.2.1 r.2.2.2.2.2.2.2.2.2.2.1) := by
  obtain ⟨m1, m6, t, m7, m8, m9⟩ := hM
  dsimp only at m1 m8 m9
  subst m7 h0
  have hp0 : p ≤ n := by obtain ⟨r, j, c1, c2, c3, c4, _⟩ := hI; exact c4
  unfold f_X12_operand
  refine zl_bind (P := fun i a => (∃ bn dp st p' f, a.2.1 = 1 ∧ i + p ≤ p' ∧ a.1 = b2 bn ∧ a.2.2.2.1 = 0 ∧ a.2.2.2.2.1 = -1 ∧ OpS b n oh R out t bn 0 dp st p' f a.2.2.1 a.2.2.2.2.2.2.2.2.2.2.2.2.1 a.2.2.2.2.2.2.2.2.2.2.2.2.2.1 a.2.2.2.2.2.2.2.2.2.2.1 a.2.2.2.2.2.1 a.2.2.2.2.2.2.1 a.2.2.2.2.2.2.2.1 a.2.2.2.2.2.2.2.2.1 a.2.2.2.2.2.2.2.2.2.1 a.2.2.2.2.2.2.2.2.2.2.2.1 a.2.2.2.2.2.2.2.2.2.2.2.2.2.2) ∨ (∃ bn nots dp st p' f, a.2.1 = 0 ∧ p ≤ p' ∧ a.2.2.2.1 = 0 ∧ a.2.2.2.2.1 = -1 ∧ sgI b n p' 40 = false ∧ (bn && tw b n p' 15) = false ∧ OpS b n oh R out t bn nots dp st p' f a.2.2.1 a.2.2.2.2.2.2.2.2.2.2.2.2.1 a.2.2.2.2.2.2.2.2.2.2.2.2.2.1 a.2.2.2.2.2.2.2.2.2.2.1 a.2.2.2.2.2.1 a.2.2.2.2.2.2.1 a.2.2.2.2.2.2.2.1 a.2.2.2.2.2.2.2.2.1 a.2.2.2.2.2.2.2.2.2.1 a.2.2.2.2.2.2.2.2.2.2.2.1 a.2.2.2.2.2.2.2.2.2.2.2.2.2.2) ∨ Bad R a.2.2.2.1 a.2.2.2.2.1 a.2.2.2.2.2.2.2.2.2.2.2.2.1 (nI t)) (Post := fun a => (∃ bn nots dp st p' f, p ≤ p' ∧ a.2.1 = 0 ∧ a.2.2.1 = -1 ∧ sgI b n p' 40 = false ∧ (bn && tw b n p' 15) = false ∧ OpS b n oh R out t bn nots dp st p' f a.1 a.2.2.2.2.2.2.2.2.2.2.1 a.2.2.2.2.2.2.2.2.2.2.2.1 a.2.2.2.2.2.2.2.2.1 a.2.2.2.1 a.2.2.2.2.1 a.2.2.2.2.2.1 a.2.2.2.2.2.2.1 a.2.2.2.2.2.2.2.1 a.2.2.2.2.2.2.2.2.2.1 a.2.2.2.2.2.2.2.2.2.2.2.2) ∨ Bad R a.2.1 a.2.2.1 a.2.2.2.2.2.2.2.2.2.2.1 (nI t)) 701 (by decide) (.inl ⟨bn, dp, st, p, f, rfl, by omega, rfl, rfl, rfl, hI, hf, hR, m1, m9, hT⟩) ?_ ?_ ?_
  · rintro i hi ⟨x1, x2, x4, x5, x6, x7, x8, x9, x10, x11, x12, x13, x14, x15, x16⟩ hP
    dsimp only at hP
    rcases hP with ⟨bn, dp, st, p', f, q1, q3, q4, q5, q6, hO⟩ | ⟨bn, nots, dp, st, p', f, q1, q2, q3, q4, q5, q6, hO⟩ | hB
    · subst q1 q4 q5 q6
      refine zi_f (by decide) ?_
      refine zi_beq (a := 1) rfl (zi_f (by decide) ?_)
      refine zi_bind (m_nots (rc0 := rc0) (a0 := a0) hn htp (i0 := 0) hO ?_)
      rintro ⟨y58, y59, y60, y61, y62, y63, y64, y65, y66, y67, y68⟩ hG
      dsimp only at hG ⊢
      rcases hG with ⟨nots, st, p2, f, g1, g2, g3, g4, o1, o2, o3, ⟨m1, m2, m3, m4, m5⟩, o5, ⟨t1, t2, t3, t4, t5, t6, t7⟩⟩ | hB
      · subst g1 g2
        refine zi_beq (a := 1) rfl ?_
        have hp2 : p2 ≤ n := by obtain ⟨r, j, c1, c2, c3, c4, _⟩ := o1; exact c4
        cases h40 : sgI b n p2 40 with
        | false =>
          refine zi_bind (zi_f (by decide) ?_)
          refine zi_beq (m_sign t4 t5) ?_
          rw [h40]
          refine zi_t rfl (zwi ?_)
          refine zi_t rfl (zwi (.inr (.inl ⟨bn, nots, dp, st, p2, f, rfl, by omega, rfl, rfl, h40, g4, o1, o2, o3, ⟨m1, m2, m3, m4, m5⟩, o5, ⟨t1, t2, t3, t4, t5, t6, t7⟩⟩)))
        | true =>
          refine zi_bind (zi_f (by decide) ?_)
          refine zi_beq (m_sign t4 t5) ?_
          rw [h40]
          refine zi_f (by decide) (zwi ?_)
          refine zi_f (by decide) ?_
          have hpt := aPart_open (oh := oh) (nots := nots) (bn := bn) (st := st) (out := out) m2 h40
          have hlen := o1.len
          dsimp only at hlen
          have hok := aPart_ok o1 rfl hpt
          obtain ⟨g, rfl⟩ : ∃ g, f = g + 1 := ⟨f - 1, by omega⟩
          rw [aSt_due rfl hpt] at o3
          rw [m3]
          refine zi_beq (m_waits (by omega)) ?_
          refine zi_bind (zwp_mono (m_gs hn hp2 htp t2) ?_)
          rintro ⟨o73, o74, o75, o76, o77, o78, o79⟩ hT2
          have hlt : p2 < nxP b n p2 := hok.2
          have hp3 : nxP b n p2 ≤ n := by obtain ⟨r, j, c1, c2, c3, c4, _⟩ := hok.1; exact c4
          obtain ⟨r, j, c1, _⟩ := o1
          obtain ⟨fl, tl, e1, e2, _⟩ := lvF_c c1
          obtain ⟨u1, u2, u3, u4, u5, u6, u7⟩ := hT2
          dsimp only at u1 u2 u3 u4 u5 u6 u7 ⊢
          unfold f_X12_deeper
          by_cases h5 : dp = 5
          · subst h5
            refine zi_bind (zi_t (by rw [m1]; decide) ?_)
            have hk := tK_le (b := b) (n := n) (p := nxP b n p2)
            refine zi_bind (zwp_mono (Q := fun v => v = nI (if tK b n (nxP b n p2) = 2 then 2 else if tK b n (nxP b n p2) = 1 then 2 else if sgI b n (nxP b n p2) 40 then 2 else 1)) ?_ ?_)
            · by_cases k2 : tK b n (nxP b n p2) = 2
              · rw [if_pos k2]
                exact zi_t (by rw [u5, k2]; rfl) (zwi rfl)
              · rw [if_neg k2]
                refine zi_f (by rw [u5]; exact nI_ne (b := 2) (by omega) (by decide) k2) ?_
                by_cases k1 : tK b n (nxP b n p2) = 1
                · rw [if_pos k1]
                  exact zi_t (by rw [u5, k1]; rfl) (zwi rfl)
                · rw [if_neg k1]
                  refine zi_f (by rw [u5]; exact nI_ne (b := 1) (by omega) (by decide) k1) ?_
                  refine zi_beq (m_sign u4 u5) ?_
                  cases sgI b n (nxP b n p2) 40 with
                  | true => exact zi_f (by decide) (zwi rfl)
                  | false => exact zi_t rfl (zwi rfl)
            rintro _ rfl
            refine zi_beq m_wrong0 (zwi ?_)
            refine zwi (.inr (.inr ?_))
            exact Bad_of (p := nxP b n p2) (w := st.length + 1) hn rfl rfl hp3 (by omega) o3 aPart_deep rfl u3 rfl (by omega) (by omega)
          · refine zi_bind (zi_f (by rw [m1, show (6 : Int32) = nI 6 from rfl]; exact nI_ge (by omega) (by decide)) ?_)
            rw [m1, nI_1, zbnd_nI (by omega) (by decide), nI_clamp (show dp + 1 + 1 < 2 ^ 31 by omega)]
            refine zwi (zwi (.inl ⟨true, dp + 1, -20 :: st, nxP b n p2, g, rfl, by omega, rfl, rfl, rfl, hok.1, by omega, o3, ⟨rfl, by omega, rfl, push_stL (x := -20) m4, ?_⟩, ?_, ⟨u1, u2, u3, u4, u5, u6, u7⟩⟩))
            · show TR (upd x12 (dp + 1 + 1) (vp_nar .boolean 0)) (false :: lvF st)
              have := TR_put (h := false) m5
              rw [e1, List.length_cons, e2] at this
              rw [e1]; exact this
            · rw [List.length_cons]; omega
      · refine zi_beq (isGood0 hB) ?_
        refine zi_bind (zi_t rfl (zwi ?_))
        refine zi_t rfl (zwi (.inr (.inr hB)))
    · subst q1
      exact zi_t rfl (zwi (.inl ⟨bn, nots, dp, st, p', f, q2, q3, q4, q5, q6, hO⟩))
    · refine zi_c (fun q => zwi (.inr hB)) (fun q => ?_)
      exact zi_beq (isGood0 hB) (zi_t rfl (zwi (.inr hB)))
  · rintro ⟨x1, x2, x4, x5, x6, x7, x8, x9, x10, x11, x12, x13, x14, x15, x16⟩ hP
    dsimp only at hP
    rcases hP with ⟨bn, dp, st, p', f, q1, q3, q4, q5, q6, o1, _⟩ | ⟨bn, nots, dp, st, p', f, q1, q2, q3, q4, q5, q6, hO⟩ | hB
    · obtain ⟨r, j, c1, c2, c3, c4, _⟩ := o1
      dsimp only at c4
      omega
    · subst q1
      exact zi_t rfl (zwi (.inl ⟨bn, nots, dp, st, p', f, q2, q3, q4, q5, q6, hO⟩))
    · refine zi_c (fun q => zwi (.inr hB)) (fun q => ?_)
      exact zi_beq (isGood0 hB) (zi_t rfl (zwi (.inr hB)))
  · rintro ⟨y20, y21, y22, y23, y24, y25, y26, y27, y28, y29, y30, y31, y32⟩ hP
    dsimp only at hP ⊢
    rcases hP with ⟨bn, nots, dp, st, p', f, q1, q2, q3, q4, q5, o1, o2, o3, o4, o5, hT2⟩ | hB
    · subst q2 q3
      refine zi_bind (zwp_mono (m_part hn htp o1 o4.2.1 hT2 m8 m6 o5 q4 q5) ?_)
      rintro ⟨z1, z2, z3, z4, z5, z6, z7, z8, z9, z10, z11⟩ hz
      have hlen := o1.len
      dsimp only at hlen
      have hp' : p' ≤ n := by obtain ⟨r, j, c1, c2, c3, c4, _⟩ := o1; exact c4
      cases hpt : aPart b n oh (true, bn, nots, dp, st, out, p') with
      | inl s' =>
        rw [hpt] at hz
        obtain ⟨a1, a2, a3, a4, a5, a6, a7, t', a8, a9, a10⟩ := hz
        dsimp only at a1 a2 a3 a4 a5 a6 a7 a8 a9 a10
        have hok := aPart_ok o1 rfl hpt
        have hlt : p' < s'.2.2.2.2.2.2 := hok.2
        obtain ⟨g, rfl⟩ : ∃ g, f = g + 1 := ⟨f - 1, by omega⟩
        rw [aSt_due rfl hpt] at o3
        refine zwi (.inl ⟨s', g, a1, a2, hok.1, a3, by omega, by omega, o3, ⟨by rw [a4, a5]; exact o4, a7, t', a8, a9, by rw [a5]; exact a10⟩, a6⟩)
      | inr k =>
        rw [hpt] at hz
        obtain ⟨a1, a2, t', a3, a4⟩ := hz
        dsimp only at a1 a2 a3
        obtain ⟨g, rfl⟩ : ∃ g, f = g + 1 := ⟨f - 1, by omega⟩
        obtain ⟨e, k1, k3⟩ := aSt_dueR (f := g) rfl hpt
        rw [e] at o3
        subst o3
        exact zwi (.inr ⟨a1, a2, k1, k3, st.length, t', o4.2.2.1, a3, by omega, a4⟩)
    · unfold f_X12_part
      refine zi_bind (zi_beq (isGood0 hB) (zi_t rfl (zwi (zwi (.inr hB)))))
