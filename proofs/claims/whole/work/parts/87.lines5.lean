/-! READING LINES: a line -/
theorem cm_line {b tape : Nat → Int32} {n p W H : Nat} {db dt fg gs hs lts ss rs bn dp nots due w e k nm pl : Int32} {gc hc lt sc st sp wy wt : Nat → Int32} {wls : Int64} {mdp fv lv l0 nd nf nga nha nll nss nx mpl sg so tp va wn : Int32} {nl nr nsa nwl nw rc ts ws : Nat → Int32} {wd : Int64} (hn : n ≤ 700) (hp : p < n) (htp : ∀ k, k < n → tape k = b k) (hWH : W * H ≤ 36) (hPR : PR W H p db dt fg gc gs hc hs lt lts sc ss st sp wls wy nd nf nga nha nl nll nr nsa nss nwl nw rc tp) (ht : CTok b n p e k nm pl) (hT : MTok b n p l0 nx mpl sg so va wd) : zwp (f_X4_readLine db dt fg gc gs (nI H) hc hs lt lts sc ss st sp wls wy (nI W) rs bn dp nots due wt w b e k (nI n) nm pl) (fun r => zwp (f_X12_line mdp 0 (-1) fv lv l0 (nI n) nd nf nga nha nl nll nr nsa nss (nI H) nwl nw (nI W) nx mpl rc sg so tape ts tp va wn ws wd) (fun m => ((r.1 = 0 ∧ ∃ p', p < p' ∧ p' ≤ n ∧ CTok b n p' r.2.2.2.2.2.2.2.2.2.2.2.2.2.2.2.2.2.2.2.2.2.2.2.1 r.2.2.2.2.2.2.2.2.2.2.2.2.2.2.2.2.2.2.2.2.2.2.2.2.1 r.2.2.2.2.2.2.2.2.2.2.2.2.2.2.2.2.2.2.2.2.2.2.2.2.2.1 r.2.2.2.2.2.2.2.2.2.2.2.2.2.2.2.2.2.2.2.2.2.2.2.2.2.2 ∧ ((sgI b n p' 59 = true ∧ m.2.1 = 0 ∧ m.2.2.1 = -1 ∧ MTok b n (nxP b n p') m.2.2.2.2.2.1 m.2.2.2.2.2.2.2.2.2.2.2.2.2.2.2.2.2.1 m.2.2.2.2.2.2.2.2.2.2.2.2.2.2.2.2.2.2.1 m.2.2.2.2.2.2.2.2.2.2.2.2.2.2.2.2.2.2.2.2.1 m.2.2.2.2.2.2.2.2.2.2.2.2.2.2.2.2.2.2.2.2.2.1 m.2.2.2.2.2.2.2.2.2.2.2.2.2.2.2.2.2.2.2.2.2.2.2.2.1 m.2.2.2.2.2.2.2.2.2.2.2.2.2.2.2.2.2.2.2.2.2.2.2.2.2.2.2 ∧ PR W H p' r.2.1 r.2.2.1 r.2.2.2.1 r.2.2.2.2.1 r.2.2.2.2.2.1 r.2.2.2.2.2.2.1 r.2.2.2.2.2.2.2.1 r.2.2.2.2.2.2.2.2.1 r.2.2.2.2.2.2.2.2.2.1 r.2.2.2.2.2.2.2.2.2.2.1 r.2.2.2.2.2.2.2.2.2.2.2.1 r.2.2.2.2.2.2.2.2.2.2.2.2.1 r.2.2.2.2.2.2.2.2.2.2.2.2.2.1 r.2.2.2.2.2.2.2.2.2.2.2.2.2.2.1 r.2.2.2.2.2.2.2.2.2.2.2.2.2.2.2.1 m.2.2.2.2.2.2.1 m.2.2.2.2.2.2.2.1 m.2.2.2.2.2.2.2.2.1 m.2.2.2.2.2.2.2.2.2.1 m.2.2.2.2.2.2.2.2.2.2.1 m.2.2.2.2.2.2.2.2.2.2.2.1 m.2.2.2.2.2.2.2.2.2.2.2.2.1 m.2.2.2.2.2.2.2.2.2.2.2.2.2.1 m.2.2.2.2.2.2.2.2.2.2.2.2.2.2.1 m.2.2.2.2.2.2.2.2.2.2.2.2.2.2.2.1 m.2.2.2.2.2.2.2.2.2.2.2.2.2.2.2.2.1 m.2.2.2.2.2.2.2.2.2.2.2.2.2.2.2.2.2.2.2.1 m.2.2.2.2.2.2.2.2.2.2.2.2.2.2.2.2.2.2.2.2.2.2.2.1) ∨ (sgI b n p' 59 = false ∧ m.2.1 = nI 1 ∧ m.2.2.1 = nI p'))) ∨ (∃ k q, 1 ≤ k ∧ k ≤ 5 ∧ r.1 = nI k ∧ r.2.2.2.2.2.2.2.2.2.2.2.2.2.2.2.2.2.2.2.2.2.2.2.2.2.2 = nI q ∧ m.2.1 = nI k ∧ m.2.2.1 = nI q)))) := by
  obtain ⟨F, S, L, wl, t, x1, x2, g1, x3, x4, g2, x5, x6, g3, x7, g4, x8, g5, g6, g7, g8, g9, g10, g11, g12, g13, g14, g15, g16⟩ := hPR
  subst x1 x2 x3 x4 x5 x6 x7 x8
  have hw36 : wl < 2 ^ 36 := Nat.lt_of_lt_of_le g4 (Nat.pow_le_pow_right (by decide) hWH)
  have hw63 : wl < 2 ^ 63 := Nat.lt_trans hw36 (by decide)
  have hx := nx_ok (b := b) hp
  have hx2 := nx_le (b := b) hx.2
  have ht0 := ht
  obtain ⟨t1, t2, t3, t4⟩ := ht0
  have htm : mpl = nI p := hT.2.2.1
  have hpl : p ≤ n := Nat.le_of_lt hp
  unfold f_X4_readLine
  have w3 : zwp (f_X9_isWord 3 b e k pl) (fun r => r = b2 (tw b n p 7)) := by rw [t1, t2, t3]; exact c_w3 hn hpl
  refine zi_bind (zwp_mono w3 ?_)
  rintro _ rfl
  cases hw : tw b n p 7 with
  | true =>
    refine zi_f (by decide) ?_
    refine zi_bind (zwp_mono (c_readWall hn hp g1 g2 hw63 hWH ht) ?_)
    rintro ⟨r71, o66, o67, o68, o69, o70⟩ ⟨c1, c2, c3⟩
    dsimp only at c1 c2 c3 ⊢
    refine zwi ?_
    have hk : kwI b n p = nI 7 := (kw_iff (k := 7) (by decide)).mpr hw
    unfold f_X12_line
    refine zi_bind (zwp_mono (m_kw hn hpl hT.1 hT.2.2.2.2.1 hT.2.2.2.2.2.2) ?_)
    rintro _ rfl
    refine zi_bind ?_
    refine zi_t hk ?_
    refine zi_bind (zwp_mono (m_begins (much := false) (again := false) hn hpl htp hT) ?_)
    rintro ⟨z1, z2, z3, z4, z5, z6, z7, z8, z9, z10⟩ ⟨k1, k2, k3⟩
    dsimp only at k1 k2 k3 ⊢
    obtain ⟨z1e, z2e, z3e, hT2⟩ := k3 rfl rfl
    subst z1e z2e z3e
    refine zi_f (by decide) ?_
    refine zi_bind (zwp_mono (m_readsWall (wl := wl) (start := st) (sc := sc) hn hx.2 htp g1 g2 hWH g11 (fun f hf => by obtain ⟨c, _, e1, e2⟩ := g7 f hf; rw [e1, e2]) (fun s hs => by obtain ⟨c, _, e1, e2⟩ := g9 s hs; rw [e1, e2]) hT2) ?_)
    rintro ⟨w1, w2, w3, w4, w5, w6, w7, w8, w9, w10⟩ ⟨d1, d2⟩
    dsimp only at d1 d2 ⊢
    have hle := wlK_le (b := b) (n := n) (p := nxP b n p) (WH := W * H) (wl := wl) (F := F) (S := S) (start := st) (sc := sc)
    by_cases h0 : wlK b n (nxP b n p) (W * H) wl F S st sc = 0
    · rw [h0] at c1
      obtain ⟨c4, ht2⟩ := c2 h0
      obtain ⟨d3, d4, d5, hT3⟩ := d1 h0
      subst d3 d4
      have hcf : cfO b n (nxP b n p) (W * H) wl = 0 := by
        unfold wlK at h0
        by_cases q : cfO b n (nxP b n p) (W * H) wl = 0
        · exact q
        · rw [if_neg q] at h0; exact h0
      obtain ⟨f1, f2, f3, f4⟩ := cfO_0 hcf
      refine zwi ?_
      refine ml_good hn hx2.2 htp hT3 ?_ ?_
      · rintro h59 ⟨a1, a2, a3, a4, a5, a6, a7, a8, a9⟩ b1 b2' hT4
        refine zwi (.inl ⟨c1, _, by omega, hx2.2, ht2, .inl ⟨h59, b1, b2', hT4, ⟨F, S, L, wl ||| 2 ^ nvN b n (nxP b n p), t, rfl, rfl, g1, rfl, rfl, g2, rfl, rfl, g3, c4, Nat.or_lt_two_pow g4 (Nat.pow_lt_pow_right (by decide) f3), rfl, by omega, g6, fun f hf => ?_, g8, g9, g10, fun c hc => ?_, ?_, ?_, fun k h1 h2 => ?_, g15, g16⟩⟩⟩)
        · obtain ⟨c, e1, e2, e3⟩ := g7 f hf
          exact ⟨c, e1, e2, by show w4 (1 + f) = _; rw [d5, pk_un (by omega)]; exact e3⟩
        · show w4 (33 + c) = _
          rw [d5, fb_bit_set]
          by_cases q : c = nvN b n (nxP b n p)
          · rw [q, pk_us, decide_eq_true rfl, Bool.or_true]; rfl
          · rw [pk_un (by omega), decide_eq_false q, Bool.or_false]; exact g11 c hc
        · show w4 0 = 0
          rw [d5, pk_un (by omega)]; exact g12
        · show w4 69 = 0
          rw [d5, pk_un (by omega)]; exact g13
        · show w4 k = 0
          rw [d5, pk_un (by omega)]; exact g14 k h1 h2
      · rintro h59 ⟨a1, a2, a3, a4, a5, a6, a7, a8, a9⟩ b1 b2'
        exact zwi (.inl ⟨c1, _, by omega, hx2.2, ht2, .inr ⟨h59, b1, b2'⟩⟩)
    · obtain ⟨d3, d4⟩ := d2 h0
      refine zwi ?_
      refine ml_bad (k := wlK b n (nxP b n p) (W * H) wl F S st sc) d3 (by omega) (by omega) (zwi (.inr ⟨wlK b n (nxP b n p) (W * H) wl F S st sc, nxP b n p, (by omega), (by omega), c1, c3 h0, d3, d4⟩))
  | false =>
  have n7 := hw
  clear hw
  refine zi_t rfl ?_
  have w4 : zwp (f_X9_isWord 4 b e k pl) (fun r => r = b2 (tw b n p 8)) := by rw [t1, t2, t3]; exact c_w4 hn hpl
  refine zi_bind (zwp_mono w4 ?_)
  rintro _ rfl
  cases hw : tw b n p 8 with
  | true =>
    refine zi_f (by decide) ?_
    refine zi_bind (zwp_mono (c_readFigure hn hp g1 hw63 hWH ht) ?_)
    rintro ⟨r65, o56, o57, o58, o59, o60, o61, o62, o63, o64⟩ ⟨c1, c2, c3⟩
    dsimp only at c1 c2 c3 ⊢
    refine zwi ?_
    have hk : kwI b n p = nI 8 := (kw_iff (k := 8) (by decide)).mpr hw
    unfold f_X12_line
    refine zi_bind (zwp_mono (m_kw hn hpl hT.1 hT.2.2.2.2.1 hT.2.2.2.2.2.2) ?_)
    rintro _ rfl
    refine zi_bind ?_
    refine zi_f (by rw [hk]; decide) ?_
    refine zi_t hk ?_
    refine zi_bind (zwp_mono (Q := fun v => v = b2 (decide (F = 8))) ?_ ?_)
    · by_cases q : F = 8
      · rw [decide_eq_true q]; exact zi_t (by rw [q]; rfl) (zwi rfl)
      · rw [decide_eq_false q]; exact zi_f (nI_ne (b := 8) (by omega) (by decide) q) (zwi rfl)
    rintro _ rfl
    refine zi_bind (zwp_mono (m_begins (much := decide (F = 8)) (again := false) hn hpl htp hT) ?_)
    rintro ⟨z1, z2, z3, z4, z5, z6, z7, z8, z9, z10⟩ ⟨k1, k2, k3⟩
    dsimp only at k1 k2 k3 ⊢
    by_cases h8 : F = 8
    · obtain ⟨c4, c5⟩ := c1 h8
      obtain ⟨e1, e2, e3⟩ := k1 (decide_eq_true h8)
      subst e1
      refine zi_t rfl ?_
      refine zwi ?_
      refine ml_bad (k := 2) e2 (by decide) (by decide) (zwi (.inr ⟨2, p, (by decide), (by decide), c4, c5, e2, e3⟩))
    · obtain ⟨z1e, z2e, z3e, hT2⟩ := k3 (decide_eq_false h8) rfl
      subst z1e z2e z3e
      refine zi_f (by decide) ?_
      refine zi_bind (zwp_mono (m_readsFigure (wl := wl) hn hx.2 htp (by omega) hWH g11 hT2) ?_)
      rintro ⟨w1, w2, w3, w4, w5, w6, w7, w8, w9, w10, w11, w12, w13⟩ ⟨d1, d2⟩
      dsimp only at d1 d2 ⊢
      have hle := cfO_le (b := b) (n := n) (p := nxP b n p) (WH := W * H) (wl := wl)
      by_cases h0 : cfO b n (nxP b n p) (W * H) wl = 0
      · obtain ⟨f1, f2, f3, f4⟩ := cfO_0 h0
        obtain ⟨j, y1, y2, y3, y4, y5, y6, y7, ht2⟩ := c3 h8 h0
        obtain ⟨j2, e1, e2, e3⟩ := d2 h0
        have hjj := RowStop_one e1 y1
        subst hjj
        have htn := tn_le (b := b) hx2.2 j2
        have hle2 : rowF b n (nxP b n (nxP b n p)) j2 ≤ 2 := by
          unfold rowF
          repeat' split
          all_goals omega
        by_cases h1 : rowF b n (nxP b n (nxP b n p)) j2 = 0
        · rw [h1] at y2
          obtain ⟨e4, e5, e6, e7, e8, e9, e10, hT3⟩ := e3 h1
          subst e4 e5
          have c1 := y2
          have hj0 : 0 < j2 := by
            unfold rowF at h1
            by_cases q : tK b n (tn b n (nxP b n (nxP b n p)) j2) = 2
            · rw [if_pos q] at h1; cases h1
            · rw [if_neg q] at h1
              by_cases q2 : j2 = 0
              · rw [if_pos q2] at h1; cases h1
              · omega
          clear h1 hle2 c2 c3 d1 d2 e2 e3
          refine zwi ?_
          refine ml_good hn htn.2 htp hT3 ?_ ?_
          · rintro h59 ⟨a1, a2, a3, a4, a5, a6, a7, a8, a9⟩ b1 b2' hT4
            refine zwi (.inl ⟨c1, _, by omega, htn.2, ht2, .inl ⟨h59, b1, b2', hT4, ⟨F + 1, S, L, wl, t, y3, e6, by omega, rfl, rfl, g2, rfl, rfl, g3, rfl, g4, rfl, by omega, g6, fun f hf => ?_, fun f hf => ?_, g9, g10, fun c hc => ?_, ?_, ?_, fun k h1 h2 => ?_, g15, g16⟩⟩⟩)
            · by_cases q : f = F
              · exact ⟨nvN b n (nxP b n p), f3, by show o57 f = _; rw [y4, q, pk_us], by show w5 (1 + f) = _; rw [e7, q, pk_us]⟩
              · obtain ⟨c, u1, u2, u3⟩ := g7 f (by omega)
                exact ⟨c, u1, by show o57 f = _; rw [y4, pk_un q]; exact u2, by show w5 (1 + f) = _; rw [e7, pk_un (by omega)]; exact u3⟩
            · by_cases q : f = F
              · subst q
                refine ⟨j2, hj0, y1.1, by show o58 f = _; rw [y5, pk_us], by show w6 f = _; rw [e8, pk_us], fun k hk => ?_⟩
                obtain ⟨v1, v2⟩ := y1.2.1 k hk
                obtain ⟨v3, v4, v5, v6⟩ := nfO_0 v2
                exact ⟨_, v6, y6 k hk, e9 k hk⟩
              · obtain ⟨s, u1, u2, u3, u4, u5⟩ := g8 f (by omega)
                refine ⟨s, u1, u2, by show o58 f = _; rw [y5, pk_un q]; exact u3, by show w6 f = _; rw [e8, pk_un q]; exact u4, fun k hk => ?_⟩
                obtain ⟨w, v1, v2, v3⟩ := u5 k hk
                exact ⟨w, v1, (y7 (f * 8 + k) (by omega)).trans v2, (e10 (8 * f + k) (by omega)).trans v3⟩
            · show w5 (33 + c) = _
              rw [e7, pk_un (by omega)]; exact g11 c hc
            · show w5 0 = 0
              rw [e7, pk_un (by omega)]; exact g12
            · show w5 69 = 0
              rw [e7, pk_un (by omega)]; exact g13
            · show w5 k = 0
              rw [e7, pk_un (by omega)]; exact g14 k h1 h2
          · rintro h59 ⟨a1, a2, a3, a4, a5, a6, a7, a8, a9⟩ b1 b2'
            exact zwi (.inl ⟨c1, _, by omega, htn.2, ht2, .inr ⟨h59, b1, b2'⟩⟩)
        · obtain ⟨e4, e5⟩ := e2 h1
          refine zwi ?_
          refine ml_bad (k := rowF b n (nxP b n (nxP b n p)) j2) e4 (by omega) (by omega) (zwi (.inr ⟨rowF b n (nxP b n (nxP b n p)) j2, tn b n (nxP b n (nxP b n p)) j2, (by omega), (by omega), y2, ht2.2.2.1, e4, e5⟩))
      · obtain ⟨c4, c5⟩ := c2 h8 h0
        obtain ⟨d3, d4⟩ := d1 h0
        refine zwi ?_
        refine ml_bad (k := cfO b n (nxP b n p) (W * H) wl) d3 (by omega) (by omega) (zwi (.inr ⟨cfO b n (nxP b n p) (W * H) wl, nxP b n p, (by omega), (by omega), c4, c5, d3, d4⟩))
  | false =>
  have n8 := hw
  clear hw
  refine zi_t rfl ?_
  have w5 : zwp (f_X9_isWord 5 b e k pl) (fun r => r = b2 (tw b n p 9)) := by rw [t1, t2, t3]; exact c_w5 hn hpl
  refine zi_bind (zwp_mono w5 ?_)
  rintro _ rfl
  cases hw : tw b n p 9 with
  | true =>
    refine zi_f (by decide) ?_
    refine zi_bind (zwp_mono (c_readSeat hn hp g2 hw63 hWH ht) ?_)
    rintro ⟨r55, o49, o50, o51, o52, o53, o54⟩ ⟨c1, c2⟩
    dsimp only at c1 c2 ⊢
    refine zwi ?_
    have hk : kwI b n p = nI 9 := (kw_iff (k := 9) (by decide)).mpr hw
    unfold f_X12_line
    refine zi_bind (zwp_mono (m_kw hn hpl hT.1 hT.2.2.2.2.1 hT.2.2.2.2.2.2) ?_)
    rintro _ rfl
    refine zi_bind ?_
    refine zi_f (by rw [hk]; decide) ?_
    refine zi_f (by rw [hk]; decide) ?_
    refine zi_t hk ?_
    refine zi_bind (zwp_mono (Q := fun v => v = b2 (decide (S = 8))) ?_ ?_)
    · by_cases q : S = 8
      · rw [decide_eq_true q]; exact zi_t (by rw [q]; rfl) (zwi rfl)
      · rw [decide_eq_false q]; exact zi_f (nI_ne (b := 8) (by omega) (by decide) q) (zwi rfl)
    rintro _ rfl
    refine zi_bind (zwp_mono (m_begins (much := decide (S = 8)) (again := false) hn hpl htp hT) ?_)
    rintro ⟨z1, z2, z3, z4, z5, z6, z7, z8, z9, z10⟩ ⟨k1, k2, k3⟩
    dsimp only at k1 k2 k3 ⊢
    by_cases h8 : S = 8
    · obtain ⟨c3, c4⟩ := c1 h8
      obtain ⟨e1, e2, e3⟩ := k1 (decide_eq_true h8)
      subst e1
      refine zi_t rfl ?_
      refine zwi ?_
      refine ml_bad (k := 2) e2 (by decide) (by decide) (zwi (.inr ⟨2, p, (by decide), (by decide), c3, c4, e2, e3⟩))
    · obtain ⟨c3, c4, c5⟩ := c2 h8
      obtain ⟨z1e, z2e, z3e, hT2⟩ := k3 (decide_eq_false h8) rfl
      subst z1e z2e z3e
      refine zi_f (by decide) ?_
      refine zi_bind (zwp_mono (m_readsSeat (wl := wl) hn hx.2 htp (by omega) hWH g11 hT2) ?_)
      rintro ⟨w1, w2, w3, w4, w5, w6, w7, w8, w9, w10, w11⟩ ⟨d1, d2⟩
      dsimp only at d1 d2 ⊢
      have hle := cfO_le (b := b) (n := n) (p := nxP b n p) (WH := W * H) (wl := wl)
      by_cases h0 : cfO b n (nxP b n p) (W * H) wl = 0
      · rw [h0] at c3
        obtain ⟨c6, c7, ht2⟩ := c4 h0
        obtain ⟨d3, d4, d5, d6, hT3⟩ := d1 h0
        subst d3 d4
        obtain ⟨f1, f2, f3, f4⟩ := cfO_0 h0
        have c1 := c3
        refine zwi ?_
        refine ml_good hn hx2.2 htp hT3 ?_ ?_
        · rintro h59 ⟨a1, a2, a3, a4, a5, a6, a7, a8, a9⟩ b1 b2' hT4
          refine zwi (.inl ⟨c1, _, by omega, hx2.2, ht2, .inl ⟨h59, b1, b2', hT4, ⟨F, S + 1, L, wl, t, rfl, rfl, g1, c7, d6, by omega, rfl, rfl, g3, rfl, g4, rfl, by omega, g6, g7, g8, fun s hs => ?_, g10, g11, g12, g13, g14, g15, g16⟩⟩⟩)
          by_cases q : s = S
          · exact ⟨nvN b n (nxP b n p), f3, by show o49 s = _; rw [c6, q, pk_us], by show w4 s = _; rw [d5, q, pk_us]⟩
          · obtain ⟨c, e1, e2, e3⟩ := g9 s (by omega)
            exact ⟨c, e1, by show o49 s = _; rw [c6, pk_un q]; exact e2, by show w4 s = _; rw [d5, pk_un q]; exact e3⟩
        · rintro h59 ⟨a1, a2, a3, a4, a5, a6, a7, a8, a9⟩ b1 b2'
          exact zwi (.inl ⟨c1, _, by omega, hx2.2, ht2, .inr ⟨h59, b1, b2'⟩⟩)
      · obtain ⟨d3, d4⟩ := d2 h0
        refine zwi ?_
        refine ml_bad (k := cfO b n (nxP b n p) (W * H) wl) d3 (by omega) (by omega) (zwi (.inr ⟨cfO b n (nxP b n p) (W * H) wl, nxP b n p, (by omega), (by omega), c3, c5 h0, d3, d4⟩))
  | false =>
  have n9 := hw
  clear hw
  refine zi_t rfl ?_
  have w6 : zwp (f_X9_isWord 6 b e k pl) (fun r => r = b2 (tw b n p 2)) := by rw [t1, t2, t3]; exact c_w6 hn hpl
  refine zi_bind (zwp_mono w6 ?_)
  rintro _ rfl
  cases hw : tw b n p 2 with
  | true =>
    refine zi_f (by decide) ?_
    refine zi_bind (zwp_mono (c_readLight hn hp g3 ht) ?_)
    rintro ⟨r48, o41, o42, o43, o44, o45, o46, o47⟩ ⟨c1, c2⟩
    dsimp only at c1 c2 ⊢
    refine zwi ?_
    have hk : kwI b n p = nI 2 := (kw_iff (k := 2) (by decide)).mpr hw
    unfold f_X12_line
    refine zi_bind (zwp_mono (m_kw hn hpl hT.1 hT.2.2.2.2.1 hT.2.2.2.2.2.2) ?_)
    rintro _ rfl
    refine zi_bind ?_
    refine zi_f (by rw [hk]; decide) ?_
    refine zi_f (by rw [hk]; decide) ?_
    refine zi_f (by rw [hk]; decide) ?_
    refine zi_t hk ?_
    refine zi_bind (zwp_mono (Q := fun v => v = b2 (decide (0 < L))) ?_ ?_)
    · by_cases q : 0 < L
      · rw [decide_eq_true q]; exact zi_f (nI_nle q (by omega)) (zwi rfl)
      · rw [decide_eq_false q]; exact zi_t (by rw [show L = 0 by omega]; decide) (zwi rfl)
    rintro _ rfl
    refine zi_bind (zwp_mono (m_begins (much := false) (again := decide (0 < L)) hn hpl htp hT) ?_)
    rintro ⟨z1, z2, z3, z4, z5, z6, z7, z8, z9, z10⟩ ⟨k1, k2, k3⟩
    dsimp only at k1 k2 k3 ⊢
    by_cases h8 : 0 < L
    · obtain ⟨c3, c4⟩ := c1 h8
      obtain ⟨e1, e2, e3⟩ := k2 rfl (decide_eq_true h8)
      subst e1
      refine zi_t rfl ?_
      refine zwi ?_
      refine ml_bad (k := 5) e2 (by decide) (by decide) (zwi (.inr ⟨5, p, (by decide), (by decide), c3, c4, e2, e3⟩))
    · obtain ⟨j, c3, c4, c5, c6, ht2⟩ := c2 (by omega)
      obtain ⟨z1e, z2e, z3e, hT2⟩ := k3 rfl (decide_eq_false h8)
      subst z1e z2e z3e
      refine zi_f (by decide) ?_
      refine zi_bind (zwp_mono (m_readsLight hn hx.2 htp hT2) ?_)
      rintro ⟨w1, w2, w3, w4, w5, w6, w7, w8, w9, w10, w11⟩ ⟨j2, d1, d2, d3⟩
      dsimp only at d2 d3 ⊢
      have hjj := RowStop_one d1 c3
      subst hjj
      have htn := tn_le (b := b) hx.2 j2
      have hle : rowF b n (nxP b n p) j2 ≤ 2 := by
        unfold rowF
        repeat' split
        all_goals omega
      by_cases h0 : rowF b n (nxP b n p) j2 = 0
      · rw [h0] at c4
        obtain ⟨d4, d5, d6, d7, hT3⟩ := d3 h0
        subst d4 d5
        have c1 := c4
        refine zwi ?_
        refine ml_good hn htn.2 htp hT3 ?_ ?_
        · rintro h59 ⟨a1, a2, a3, a4, a5, a6, a7, a8, a9⟩ b1 b2' hT4
          exact zwi (.inl ⟨c1, _, by omega, htn.2, ht2, .inl ⟨h59, b1, b2', hT4, ⟨F, S, j2, wl, t, rfl, rfl, g1, rfl, rfl, g2, c5, d6, c3.1, rfl, g4, rfl, by omega, g6, g7, g8, g9, fun k hk => (c6 k hk).trans (d7 k hk).symm, g11, g12, g13, g14, g15, g16⟩⟩⟩)
        · rintro h59 ⟨a1, a2, a3, a4, a5, a6, a7, a8, a9⟩ b1 b2'
          exact zwi (.inl ⟨c1, _, by omega, htn.2, ht2, .inr ⟨h59, b1, b2'⟩⟩)
      · obtain ⟨d4, d5⟩ := d2 h0
        refine zwi ?_
        refine ml_bad (k := rowF b n (nxP b n p) j2) d4 (by omega) (by omega) (zwi (.inr ⟨rowF b n (nxP b n p) j2, tn b n (nxP b n p) j2, (by omega), (by omega), c4, ht2.2.2.1, d4, d5⟩))
  | false =>
  have n2 := hw
  clear hw
  refine zi_t rfl ?_
  have w7 : zwp (f_X9_isWord 7 b e k pl) (fun r => r = b2 (tw b n p 10)) := by rw [t1, t2, t3]; exact c_w7 hn hpl
  refine zi_bind (zwp_mono w7 ?_)
  rintro _ rfl
  cases hw : tw b n p 10 with
  | true =>
    refine zi_f (by decide) ?_
    obtain ⟨tld, htld⟩ : ∃ tld : Bool, dt = b2 tld ∧ nd = (if tld then nd else -1) ∧ (tld = true → ¬ nd = -1) := by
      rcases g6 with ⟨q1, q2, q3⟩ | ⟨q1, v, q2, q3, q4⟩
      · exact ⟨false, q1, q2, fun q => (by cases q)⟩
      · exact ⟨true, q1, rfl, fun _ => by rw [q3]; exact nI_nm1 (by omega)⟩
    obtain ⟨ht5, ht6, ht7⟩ := htld
    subst ht5
    refine zi_bind (zwp_mono (c_readDull hn hp ht) ?_)
    rintro ⟨r40, o34, o35, o36, o37, o38, o39⟩ ⟨c1, c2⟩
    dsimp only at c1 c2 ⊢
    refine zwi ?_
    have hk : kwI b n p = nI 10 := (kw_iff (k := 10) (by decide)).mpr hw
    unfold f_X12_line
    refine zi_bind (zwp_mono (m_kw hn hpl hT.1 hT.2.2.2.2.1 hT.2.2.2.2.2.2) ?_)
    rintro _ rfl
    refine zi_bind ?_
    refine zi_f (by rw [hk]; decide) ?_
    refine zi_f (by rw [hk]; decide) ?_
    refine zi_f (by rw [hk]; decide) ?_
    refine zi_f (by rw [hk]; decide) ?_
    refine zi_t hk ?_
    refine zi_bind (zwp_mono (Q := fun v => v = b2 tld) ?_ ?_)
    · cases tld with
      | true => exact zi_f (ht7 rfl) (zwi rfl)
      | false => exact zi_t ht6 (zwi rfl)
    rintro _ rfl
    refine zi_bind (zwp_mono (m_begins (much := false) (again := tld) hn hpl htp hT) ?_)
    rintro ⟨z1, z2, z3, z4, z5, z6, z7, z8, z9, z10⟩ ⟨k1, k2, k3⟩
    dsimp only at k1 k2 k3 ⊢
    cases htl : tld with
    | true =>
      obtain ⟨c3, c4⟩ := c1 htl
      obtain ⟨e1, e2, e3⟩ := k2 rfl htl
      subst e1
      refine zi_t rfl ?_
      refine zwi ?_
      refine ml_bad (k := 5) e2 (by decide) (by decide) (zwi (.inr ⟨5, p, (by decide), (by decide), c3, c4, e2, e3⟩))
    | false =>
      obtain ⟨c3, c4, c5⟩ := c2 htl
      obtain ⟨z1e, z2e, z3e, hT2⟩ := k3 rfl htl
      subst z1e z2e z3e
      refine zi_f (by decide) ?_
      refine zi_bind (zwp_mono (m_number (lo := 0) (hi := 9) hn hx.2 htp (by decide) (by decide) hT2) ?_)
      rintro ⟨w1, w2, w3, w4, w5, w6, w7, w8, w9, w10⟩ ⟨d1, d2⟩
      dsimp only at d1 d2 ⊢
      have hle := nfO_le (b := b) (n := n) (p := nxP b n p) (lo := 0) (hi := 9)
      by_cases h0 : nfO b n (nxP b n p) 0 9 = 0
      · rw [h0] at c3
        obtain ⟨c6, c7, ht2⟩ := c4 h0
        obtain ⟨d3, d4, d5, hT3⟩ := d1 h0
        subst d4 d5
        obtain ⟨f1, f2, f3, f4⟩ := nfO_0 h0
        have c1 := c3
        refine zwi ?_
        refine ml_good hn hx2.2 htp hT3 ?_ ?_
        · rintro h59 ⟨a1, a2, a3, a4, a5, a6, a7, a8, a9⟩ b1 b2' hT4
          exact zwi (.inl ⟨c1, _, by omega, hx2.2, ht2, .inl ⟨h59, b1, b2', hT4, ⟨F, S, L, wl, t, rfl, rfl, g1, rfl, rfl, g2, rfl, rfl, g3, rfl, g4, rfl, by omega, .inr ⟨c7, nvN b n (nxP b n p), f4, d3, c6⟩, g7, g8, g9, g10, g11, g12, g13, g14, g15, g16⟩⟩⟩)
        · rintro h59 ⟨a1, a2, a3, a4, a5, a6, a7, a8, a9⟩ b1 b2'
          exact zwi (.inl ⟨c1, _, by omega, hx2.2, ht2, .inr ⟨h59, b1, b2'⟩⟩)
      · obtain ⟨d3, d4⟩ := d2 h0
        refine zwi ?_
        refine ml_bad (k := nfO b n (nxP b n p) 0 9) d3 (by omega) (by omega) (zwi (.inr ⟨nfO b n (nxP b n p) 0 9, nxP b n p, (by omega), (by omega), c3, c5 h0, d3, d4⟩))
  | false =>
  have n10 := hw
  clear hw
  refine zi_t rfl ?_
  have w8 : zwp (f_X9_isWord 8 b e k pl) (fun r => r = b2 (tw b n p 11)) := by rw [t1, t2, t3]; exact c_w8 hn hpl
  refine zi_bind (zwp_mono w8 ?_)
  rintro _ rfl
  cases hw : tw b n p 11 with
  | true =>
    refine zi_f (by decide) ?_
    rcases g15 with ⟨q1, q2⟩ | ⟨out0, a0, t0, q1, q2, q3, q4, q5, _⟩
    · subst q1 q2
      have hp1 : nxP b n p ≤ n := hx.2
      refine zi_bind (zwp_mono (c_read (oh := false) hn hp ht) ?_)
      rintro ⟨y1, y2, y3, y4, y5, y6, y7, y8, y9, y10, y11, y12, y13⟩ ⟨c1, c2, c3⟩
      dsimp only at c1 c2 c3 ⊢
      refine zwi ?_
      have hk : kwI b n p = nI 11 := (kw_iff (k := 11) (by decide)).mpr hw
      unfold f_X12_line
      refine zi_bind (zwp_mono (m_kw hn hpl hT.1 hT.2.2.2.2.1 hT.2.2.2.2.2.2) ?_)
      rintro _ rfl
      refine zi_bind ?_
      refine zi_f (by rw [hk]; decide) ?_
      refine zi_f (by rw [hk]; decide) ?_
      refine zi_f (by rw [hk]; decide) ?_
      refine zi_f (by rw [hk]; decide) ?_
      refine zi_f (by rw [hk]; decide) ?_
      refine zi_t hk ?_
      refine zi_bind (zi_t rfl (zwi ?_))
      refine zi_bind (zwp_mono (m_begins (much := false) (again := false) hn hpl htp hT) ?_)
      rintro ⟨z1, z2, z3, z4, z5, z6, z7, z8, z9, z10⟩ ⟨k1, k2, k3⟩
      dsimp only at k1 k2 k3 ⊢
      obtain ⟨z1e, z2e, z3e, hT2⟩ := k3 rfl rfl
      subst z1e z2e z3e
      refine zi_f (by decide) ?_
      have hok := aGo_ok (b := b) (n := n) (oh := false) (n + 1) (true, true, 0, 0, [], [], nxP b n p) (AI_0 hp1) (by show n < nxP b n p + (n + 1); omega)
      generalize hR : aGo b n false (n + 1) (true, true, 0, 0, [], [], nxP b n p) = R at c1 c2 c3 hok
      obtain ⟨k4, k5, k6, k7⟩ := hok
      have k4' : nxP b n p ≤ R.2.1 := k4
      refine zi_bind (zwp_mono (m_expression (oh := false) (R := R) (a0 := t) (rc0 := rc) hn htp hp1 (by omega) hR (fun _ _ => rfl) hT2) ?_)
      rintro ⟨w1, w2, w3, w4, w5, w6, w7, w8, w9, w10, w11, w12, w13, w14, w15, w16, w17⟩ hz
      dsimp only at hz ⊢
      rcases hz with ⟨d1, d2, hT3, d3⟩ | ⟨d1, d2, d3, d4⟩
      · subst d1 d2
        rcases d3 with ⟨d4, t', d5, d6, d7, d8, d9, d10⟩ | ⟨d4, d5⟩
        · obtain ⟨n1, n2, n3, n4, n5⟩ := k7 d4
          obtain ⟨c4, c5, ht2⟩ := c3 d4
          rw [d4] at c1
          have hge := CRL_ge d6
          have hol : 0 < R.2.2.length := by
            cases hr : R.2.2 with
            | nil => rw [hr] at n2; cases n2
            | cons x o => rw [List.length_cons]; omega
          refine zwi ?_
          refine ml_good hn k5 htp hT3 ?_ ?_
          · rintro h59 ⟨a1, a2, a3, a4, a5, a6, a7, a8, a9⟩ b1 b2' hT4
            exact zwi (.inl ⟨c1, _, by omega, k5, ht2, .inl ⟨h59, b1, b2', hT4, ⟨F, S, L, wl, t' + 1, rfl, rfl, g1, rfl, rfl, g2, rfl, rfl, g3, rfl, g4, d5, by omega, g6, g7, g8, g9, g10, g11, g12, g13, g14, .inr ⟨R.2.2, t, t', hol, c4, c5, rfl, by omega, d6, d7, Nat.le_refl _, d8, n1, n2, by omega⟩, g16.fr (fun j hj => d10 j hj) (by omega)⟩⟩⟩)
          · rintro h59 ⟨a1, a2, a3, a4, a5, a6, a7, a8, a9⟩ b1 b2'
            exact zwi (.inl ⟨c1, _, by omega, k5, ht2, .inr ⟨h59, b1, b2'⟩⟩)
        · rw [d4] at c1
          refine zwi ?_
          refine ml_good hn k5 htp hT3 ?_ ?_
          · intro h59; rw [d5] at h59; cases h59
          · rintro h59 ⟨a1, a2, a3, a4, a5, a6, a7, a8, a9⟩ b1 b2'
            exact zwi (.inr ⟨1, R.2.1, by decide, by decide, c1, c2, b1, b2'⟩)
      · refine zwi ?_
        refine ml_bad (k := R.1) d1 d3 (by omega) (zwi (.inr ⟨R.1, R.2.1, d3, by omega, c1, c2, d1, d2⟩))
    · unfold f_X6_read
      refine zi_bind (zi_beq (a := 1) ?_ (zi_f (by decide) (zwi (zwi ?_))))
      · unfold f_X5_isTold
        rw [q2, if_neg (nI_nle q1 (by omega))]
      have hk : kwI b n p = nI 11 := (kw_iff (k := 11) (by decide)).mpr hw
      unfold f_X12_line
      refine zi_bind (zwp_mono (m_kw hn hpl hT.1 hT.2.2.2.2.1 hT.2.2.2.2.2.2) ?_)
      rintro _ rfl
      refine zi_bind ?_
      refine zi_f (by rw [hk]; decide) ?_
      refine zi_f (by rw [hk]; decide) ?_
      refine zi_f (by rw [hk]; decide) ?_
      refine zi_f (by rw [hk]; decide) ?_
      refine zi_f (by rw [hk]; decide) ?_
      refine zi_t hk ?_
      refine zi_bind (zi_f (by rw [q4]; exact nI_nm2 (by omega)) (zwi ?_))
      refine zi_bind (zwp_mono (m_begins (much := false) (again := true) hn hpl htp hT) ?_)
      rintro ⟨z1, z2, z3, z4, z5, z6, z7, z8, z9, z10⟩ ⟨k1, k2, k3⟩
      dsimp only at k1 k2 k3 ⊢
      obtain ⟨e1, e2, e3⟩ := k2 rfl rfl
      subst e1
      refine zi_t rfl ?_
      refine zwi ?_
      refine ml_bad (k := 5) e2 (by decide) (by decide) (zwi (.inr ⟨5, p, (by decide), (by decide), rfl, t3, e2, e3⟩))
  | false =>
  have n11 := hw
  clear hw
  refine zi_t rfl ?_
  have w17 : zwp (f_X9_isWord 17 b e k pl) (fun r => r = b2 (tw b n p 12)) := by rw [t1, t2, t3]; exact c_w17 hn hpl
  refine zi_bind (zwp_mono w17 ?_)
  rintro _ rfl
  cases hw : tw b n p 12 with
  | true =>
    refine zi_f (by decide) ?_
    rcases g16 with ⟨q1, q2⟩ | ⟨out0, a0, t0, q1, q2, q3, q4, q5, _⟩
    · subst q1 q2
      have hp1 : nxP b n p ≤ n := hx.2
      refine zi_bind (zwp_mono (c_read (oh := true) hn hp ht) ?_)
      rintro ⟨y1, y2, y3, y4, y5, y6, y7, y8, y9, y10, y11, y12, y13⟩ ⟨c1, c2, c3⟩
      dsimp only at c1 c2 c3 ⊢
      refine zwi ?_
      have hk : kwI b n p = nI 12 := (kw_iff (k := 12) (by decide)).mpr hw
      unfold f_X12_line
      refine zi_bind (zwp_mono (m_kw hn hpl hT.1 hT.2.2.2.2.1 hT.2.2.2.2.2.2) ?_)
      rintro _ rfl
      refine zi_bind ?_
      refine zi_f (by rw [hk]; decide) ?_
      refine zi_f (by rw [hk]; decide) ?_
      refine zi_f (by rw [hk]; decide) ?_
      refine zi_f (by rw [hk]; decide) ?_
      refine zi_f (by rw [hk]; decide) ?_
      refine zi_f (by rw [hk]; decide) ?_
      refine zi_t hk ?_
      refine zi_bind (zi_t rfl (zwi ?_))
      refine zi_bind (zwp_mono (m_begins (much := false) (again := false) hn hpl htp hT) ?_)
      rintro ⟨z1, z2, z3, z4, z5, z6, z7, z8, z9, z10⟩ ⟨k1, k2, k3⟩
      dsimp only at k1 k2 k3 ⊢
      obtain ⟨z1e, z2e, z3e, hT2⟩ := k3 rfl rfl
      subst z1e z2e z3e
      refine zi_f (by decide) ?_
      have hok := aGo_ok (b := b) (n := n) (oh := true) (n + 1) (true, true, 0, 0, [], [], nxP b n p) (AI_0 hp1) (by show n < nxP b n p + (n + 1); omega)
      generalize hR : aGo b n true (n + 1) (true, true, 0, 0, [], [], nxP b n p) = R at c1 c2 c3 hok
      obtain ⟨k4, k5, k6, k7⟩ := hok
      have k4' : nxP b n p ≤ R.2.1 := k4
      refine zi_bind (zwp_mono (m_expression (oh := true) (R := R) (a0 := t) (rc0 := rc) hn htp hp1 (by omega) hR (fun _ _ => rfl) hT2) ?_)
      rintro ⟨w1, w2, w3, w4, w5, w6, w7, w8, w9, w10, w11, w12, w13, w14, w15, w16, w17⟩ hz
      dsimp only at hz ⊢
      rcases hz with ⟨d1, d2, hT3, d3⟩ | ⟨d1, d2, d3, d4⟩
      · subst d1 d2
        rcases d3 with ⟨d4, t', d5, d6, d7, d8, d9, d10⟩ | ⟨d4, d5⟩
        · obtain ⟨n1, n2, n3, n4, n5⟩ := k7 d4
          obtain ⟨c4, c5, ht2⟩ := c3 d4
          rw [d4] at c1
          have hge := CRL_ge d6
          have hol : 0 < R.2.2.length := by
            cases hr : R.2.2 with
            | nil => rw [hr] at n2; cases n2
            | cons x o => rw [List.length_cons]; omega
          refine zwi ?_
          refine ml_good hn k5 htp hT3 ?_ ?_
          · rintro h59 ⟨a1, a2, a3, a4, a5, a6, a7, a8, a9⟩ b1 b2' hT4
            exact zwi (.inl ⟨c1, _, by omega, k5, ht2, .inl ⟨h59, b1, b2', hT4, ⟨F, S, L, wl, t' + 1, rfl, rfl, g1, rfl, rfl, g2, rfl, rfl, g3, rfl, g4, d5, by omega, g6, g7, g8, g9, g10, g11, g12, g13, g14, g15.fr (fun j hj => d10 j hj) (by omega), .inr ⟨R.2.2, t, t', hol, c4, c5, rfl, by omega, d6, d7, Nat.le_refl _, d8, n1, n2, by omega⟩⟩⟩⟩)
          · rintro h59 ⟨a1, a2, a3, a4, a5, a6, a7, a8, a9⟩ b1 b2'
            exact zwi (.inl ⟨c1, _, by omega, k5, ht2, .inr ⟨h59, b1, b2'⟩⟩)
        · rw [d4] at c1
          refine zwi ?_
          refine ml_good hn k5 htp hT3 ?_ ?_
          · intro h59; rw [d5] at h59; cases h59
          · rintro h59 ⟨a1, a2, a3, a4, a5, a6, a7, a8, a9⟩ b1 b2'
            exact zwi (.inr ⟨1, R.2.1, by decide, by decide, c1, c2, b1, b2'⟩)
      · refine zwi ?_
        refine ml_bad (k := R.1) d1 d3 (by omega) (zwi (.inr ⟨R.1, R.2.1, d3, by omega, c1, c2, d1, d2⟩))
    · unfold f_X6_read
      refine zi_bind (zi_beq (a := 1) ?_ (zi_f (by decide) (zwi (zwi ?_))))
      · unfold f_X5_isTold
        rw [q2, if_neg (nI_nle q1 (by omega))]
      have hk : kwI b n p = nI 12 := (kw_iff (k := 12) (by decide)).mpr hw
      unfold f_X12_line
      refine zi_bind (zwp_mono (m_kw hn hpl hT.1 hT.2.2.2.2.1 hT.2.2.2.2.2.2) ?_)
      rintro _ rfl
      refine zi_bind ?_
      refine zi_f (by rw [hk]; decide) ?_
      refine zi_f (by rw [hk]; decide) ?_
      refine zi_f (by rw [hk]; decide) ?_
      refine zi_f (by rw [hk]; decide) ?_
      refine zi_f (by rw [hk]; decide) ?_
      refine zi_f (by rw [hk]; decide) ?_
      refine zi_t hk ?_
      refine zi_bind (zi_f (by rw [q4]; exact nI_nm2 (by omega)) (zwi ?_))
      refine zi_bind (zwp_mono (m_begins (much := false) (again := true) hn hpl htp hT) ?_)
      rintro ⟨z1, z2, z3, z4, z5, z6, z7, z8, z9, z10⟩ ⟨k1, k2, k3⟩
      dsimp only at k1 k2 k3 ⊢
      obtain ⟨e1, e2, e3⟩ := k2 rfl rfl
      subst e1
      refine zi_t rfl ?_
      refine zwi ?_
      refine ml_bad (k := 5) e2 (by decide) (by decide) (zwi (.inr ⟨5, p, (by decide), (by decide), rfl, t3, e2, e3⟩))
  | false =>
  have n12 := hw
  clear hw
  refine zi_t rfl ?_
  refine zwi ?_
  unfold f_X12_line
  refine zi_bind (zwp_mono (m_kw hn hpl hT.1 hT.2.2.2.2.1 hT.2.2.2.2.2.2) ?_)
  rintro _ rfl
  refine zi_bind ?_
  have hne : ∀ k, k < 16 → tw b n p k = false → ¬ kwI b n p = nI k := fun k hk h e => by
    have := (kw_iff hk).mp e
    rw [h] at this; cases this
  refine zi_f (hne 7 (by decide) n7) (zi_f (hne 8 (by decide) n8) (zi_f (hne 9 (by decide) n9) (zi_f (hne 2 (by decide) n2) (zi_f (hne 10 (by decide) n10) (zi_f (hne 11 (by decide) n11) (zi_f (hne 12 (by decide) n12) ?_))))))
  refine zi_beq m_wrong0 ?_
  refine zwi ?_
  refine ml_bad (k := 1) rfl (by decide) (by decide) (zwi (.inr ⟨1, p, (by decide), (by decide), rfl, t3, rfl, htm⟩))
