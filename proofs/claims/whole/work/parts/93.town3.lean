/-! town -/
theorem nI0 : nI 0 = 0 := rfl
theorem rf_up {f g : Nat → Int32} (h : ∀ k, k < 3 → f k = g k) : ∀ k, k < 3 → upd f 0 (f 0 + 1) k = upd g 0 (g 0 + 1) k := by
  intro k hk
  unfold upd
  by_cases h0 : k = 0
  · subst h0; simp [h 0 hk]
  · simp [h0, h k hk]
theorem l_town {a1 : Int32} {m_ar : Nat → Int64} {x0 : Int32} {x1 : Int32} {x2 : Int32} {x3 : Int32} {x4 : Nat → Int32} {x5 : Int32} {x6 : Nat → Int32} {x7 : Int32} {x8 : Nat → Int32} {x9 : Int32} {x10 : Nat → Int32} {x11 : Int64} {x12 : Int32} {x13 : Int32} {x14 : Int32} {x15 : Int32} {x16 : Int32} {x17 : Nat → Int32} {x18 : Int32} {x19 : Nat → Int32} {x20 : Int32} {x21 : Int32} {x22 : Int32} {x23 : Nat → Int32} {x24 : Int32} {x25 : Int32} {x26 : Nat → Int32} {x27 : Int32} {x28 : Nat → Int32} {x29 : Int32} {x30 : Nat → Int32} {x31 : Int32} {x32 : Nat → Int32} {x33 : Nat → Int32} {x34 : Int64} {x35 : Nat → Int32} {x36 : Int32} {x37 : Nat → Int32} {x38 : Int32} {x39 : Int32} {x40 : Int32} {x41 : Int32} {x42 : Int32} {x43 : Int32} {sp : Option Int32} {Q : Bool × Int32 × Int32 × Int32 × Int32 × (Nat → Int32) × Int32 × (Nat → Int32) × Int32 × (Nat → Int32) × Int32 × (Nat → Int32) × Int64 × Int32 × Int32 × Int32 × Int32 × Int32 × (Nat → Int32) × Int32 × (Nat → Int32) × Int32 × Int32 × Int32 × (Nat → Int32) × Int32 × Int32 × (Nat → Int32) × Int32 × (Nat → Int32) × Int32 × (Nat → Int32) × Int32 × (Nat → Int32) × (Nat → Int32) × Int64 × (Nat → Int32) × Int32 × Int32 × Int32 × Int32 × Int32 × Int32 × Int32 → Prop} (h : zwp (f_X11_town a1 x0 x1 x2 x3 x4 x5 x6 x7 x8 x9 x10 x11 x12 x13 x14 x15 x16 x17 x18 x19 x20 x21 x22 x23 x24 x25 x26 x27 x28 x29 x30 x31 x32 x33 x34 x35 x36 x37 x38 x39 x40 x41 x42 x43) (fun r => r.1 = toI sp ∧ Q r.2)) : zwp (f_L_town a1 1 m_ar x0 x1 x2 x3 x4 x5 x6 x7 x8 x9 x10 x11 x12 x13 x14 x15 x16 x17 x18 x19 x20 x21 x22 x23 x24 x25 x26 x27 x28 x29 x30 x31 x32 x33 x34 x35 x36 x37 x38 x39 x40 x41 x42 x43) (fun r => r.1 = toU sp ∧ (toU sp = 0 → r.2.2.1 0 = (toW sp).toInt64) ∧ Q (r.2.1, r.2.2.2)) := by
  unfold f_L_town
  refine zi_bind (zwp_mono h ?_)
  rintro ⟨v, sw, o0, o1, o2, o3, o4, o5, o6, o7, o8, o9, o10, o11, o12, o13, o14, o15, o16, o17, o18, o19, o20, o21, o22, o23, o24, o25, o26, o27, o28, o29, o30, o31, o32, o33, o34, o35, o36, o37, o38, o39, o40, o41, o42⟩ ⟨hv, hq⟩
  dsimp only at hv hq
  subst hv
  rcases sp with _ | v
  · exact zi_t rfl (zwi ⟨rfl, fun h => absurd h (by decide), hq⟩)
  · show zwp (zbnd (nI 0) 1 _) _
    rw [zbnd_nI (by decide) (by decide)]
    exact zwi ⟨rfl, fun _ => rfl, hq⟩
theorem op_town {p q : Nat} {I : pI} {J : pJ} (H : Inv p q I J) (a1 : Int32) : OpH 272 191 [.int a1] p q I J := by
  obtain ⟨hpq, P, hr, pn, wl, nx, na, nn, ns, sz, hP, hm, hN, hD, hRf, hNo, hS, hIm, hT, eT1, eT2, eF, eDa, eW, eH, eFg, eSt, eWy, eNs, eNl, eLt, eDb, eGc, eGn, eHc, eHn, eHr, ePn, eWl, eNf, eNx, eNa, eNn, mW, mH, mF, mNs, mNl, mDb, mNa, mNn⟩ := H
  rcases hpq with ⟨rfl, rfl⟩ | ⟨rfl, rfl⟩
  · replace hS : SeatR P ns (I 11) (I 78) := hS
    replace eW : I 7 0 = nI (qW P) := eW
    replace eH : I 7 1 = nI (qH P) := eH
    replace eFg : I 7 3 = nI (qF P) := eFg
    replace eSt : I 9 = qSt P := eSt
    replace eWy : I 10 = qWy P := eWy
    replace eNs : I 7 7 = nI ns := eNs
    replace eNl : I 7 9 = nI (qNl P) := eNl
    replace eLt : I 12 = qLt P := eLt
    replace eDb : I 7 12 = qDb P := eDb
    replace eGc : I 15 = qGc P := eGc
    replace eGn : I 13 2 = nI (qGn P) := eGn
    replace eHc : I 18 = qHc P := eHc
    replace eHn : I 16 2 = nI (qHn P) := eHn
    obtain ⟨⟨r0, sw, o0, o1, o2, o3, o4, o5, o6, o7, o8, o9, o10, o11, o12, o13, o14, o15, o16, o17, o18, o19, o20, o21, o22, o23, o24, o25, o26, o27, o28, o29, o30, o31, o32, o33, o34, o35, o36, o37, o38, o39, o40, o41, o42⟩, hr1, h2⟩ := zwp_get (show zwp (f_X11_town a1 (I 36 2) (I 36 3) (I 0 2) (I 0 8) (I 32) (I 31 3) (I 34) (I 31 0) (I 35) (I 31 1) (I 33) (J 31 2) (I 3 1) (I 4 4) (I 4 2) (I 4 3) (I 4 5) (I 5) (I 4 1) (I 6) (I 19 12) (I 19 11) (I 19 3) (I 27) (I 25 2) (I 19 1) (I 30) (I 28 2) (I 24) (I 19 9) (I 23) (I 19 7) (I 20) (I 21) (J 19 2) (I 22) (I 19 0) (I 2) (I 1 4) (I 1 5) (I 1 2) (I 1 6) (I 1 3) (nI sz)) _ from cm_town (macts := I 75 50) (mcode := I 80) (mdp := I 75 39) (mdull := I 75 6) (mfk := I 75 16) (mfp := I 75 17) (mfig := I 75 3) (fv := I 75 36) (mga := I 75 7) (mimg := I 75 65) (mha := I 75 8) (lv := I 75 37) (mlight := I 79) (mll := I 75 5) (l0 := I 75 23) (ml1 := I 75 19) (nd := I 75 32) (nf := I 75 29) (nga := I 75 33) (nha := I 75 34) (nl := I 86) (nll := I 75 31) (nr := I 87) (nsa := I 85) (nss := I 75 30) (ntall := I 75 28) (nwl := I 83) (nw := I 84) (nwide := I 75 27) (nx := I 75 20) (mnoted := I 75 60) (mpl := I 75 22) (rc := I 88) (mrefd := I 82) (rows := I 91) (msa := I 78) (mseats := I 75 4) (sg := I 75 25) (so := I 75 21) (mtall := I 75 2) (tape := I 81) (ts := I 90) (mthr := I 75 0) (tp := I 75 35) (va := I 75 24) (wn := I 75 38) (ws := I 89) (mwl := I 76) (mways := I 77) (mwide := I 75 1) (wd := J 75 26) hT)
    obtain ⟨⟨b, s0, s1, s2, s3, s4, s5, s6, s7, s8, s9, s10, s11, s12, s13, s14, s15, s16, s17, s18, s19, s20, s21, s22, s23, s24, s25, s26, s27, s28, s29, s30, s31, s32, s33, s34, s35, s36, s37, s38, s39, s40, s41, s42, s43, s44, s45, s46, s47, s48, s49, s50⟩, hs, hc⟩ := zwp_get h2
    have hs2 : f_X12_town a1 (I 75 50) (I 80) (I 75 39) (I 75 6) (I 75 16) (I 75 17) (I 75 3) (I 75 36) (I 75 7) (I 75 65) (I 75 8) (I 75 37) (I 79) (I 75 5) (I 75 23) (I 75 19) (I 75 32) (I 75 29) (I 75 33) (I 75 34) (I 86) (I 75 31) (I 87) (I 85) (I 75 30) (I 75 28) (I 83) (I 84) (I 75 27) (I 75 20) (I 75 60) (I 75 22) (I 88) (I 82) (I 91) (I 78) (I 75 4) (I 75 25) (I 75 21) (I 75 2) (I 81) (I 75 15) (I 90) (I 75 0) (I 75 35) (I 75 24) (I 75 38) (I 89) (I 76) (I 77) (I 75 1) (J 75 26) = some (b, s0, s1, s2, s3, s4, s5, s6, s7, s8, s9, s10, s11, s12, s13, s14, s15, s16, s17, s18, s19, s20, s21, s22, s23, s24, s25, s26, s27, s28, s29, s30, s31, s32, s33, s34, s35, s36, s37, s38, s39, s40, s41, s42, s43, s44, s45, s46, s47, s48, s49, s50) := by rw [eT2]; exact hs
    dsimp only at hc
    clear hs h2
    rcases hc with ⟨r1, esw, sb, thr, fpl, mfp, refd, mrefd, tsz, mtsz, acts, notes, imgd, ncell, nfig, nheld, nhr, nlead, npn, nsore, nwls, macts, mcode, mdull, mfig, mga, mimg, mha, mlight, mll, mnoted, rows, msa, mseats, mtall, mwl, mways, mwide⟩ | ⟨k2, q2, r1, esw, sb, thr, fpl, mfp, refd, mrefd, tsz, mtsz, acts, notes, imgd, ncell, nfig, nheld, nhr, nlead, npn, nsore, nwls, macts, mcode, mdull, mfig, mga, mimg, mha, mlight, mll, mnoted, rows, msa, mseats, mtall, mwl, mways, mwide⟩ | ⟨r1, esw, sb, thr, fpl, mfp, refd, mrefd, tsz, mtsz, acts, notes, imgd, macts, mnoted, mimg, P2, wl2, ns2, hP2, hm2, hN2, hS2, nfig, nhr, npn, nwls, sdb, sfg, sgc, sgs, shh, shc, shs, slt, slts, sss, ssp, swy, sww, mfig, mll, mseats, mtall, mwide, mdull⟩
    · have hw0 := l_town (m_ar := J 107) (sp := none) (Q := fun x => x = (sw, o0, o1, o2, o3, o4, o5, o6, o7, o8, o9, o10, o11, o12, o13, o14, o15, o16, o17, o18, o19, o20, o21, o22, o23, o24, o25, o26, o27, o28, o29, o30, o31, o32, o33, o34, o35, o36, o37, o38, o39, o40, o41, o42)) (zwp_of hr1 ⟨r1, rfl⟩)
      obtain ⟨⟨k, sw2, oj, tt⟩, hw, hk, hans, ho⟩ := zwp_get hw0
      dsimp only at hk hans ho
      injection ho with ho0 ho1
      subst ho0
      subst ho1
      have hw2 : f_L_town a1 1 (J 107) (I 36 2) (I 36 3) (I 0 2) (I 0 8) (I 32) (I 31 3) (I 34) (I 31 0) (I 35) (I 31 1) (I 33) (J 31 2) (I 3 1) (I 4 4) (I 4 2) (I 4 3) (I 4 5) (I 5) (I 4 1) (I 6) (I 19 12) (I 19 11) (I 19 3) (I 27) (I 25 2) (I 19 1) (I 30) (I 28 2) (I 24) (I 19 9) (I 23) (I 19 7) (I 20) (I 21) (J 19 2) (I 22) (I 19 0) (I 2) (I 1 4) (I 1 5) (I 1 2) (I 1 6) (I 1 3) (I 1 1) = some (k, sw2, oj, o0, o1, o2, o3, o4, o5, o6, o7, o8, o9, o10, o11, o12, o13, o14, o15, o16, o17, o18, o19, o20, o21, o22, o23, o24, o25, o26, o27, o28, o29, o30, o31, o32, o33, o34, o35, o36, o37, o38, o39, o40, o41, o42) := by rw [eT1]; exact hw
      clear hw hw0 hr1
      subst esw
      subst sb
      subst thr
      subst fpl
      subst mfp
      subst refd
      subst mrefd
      subst tsz
      subst mtsz
      subst acts
      subst notes
      subst imgd
      subst ncell
      subst nfig
      subst nheld
      subst nhr
      subst nlead
      subst npn
      subst nsore
      subst nwls
      subst macts
      subst mcode
      subst mdull
      subst mfig
      subst mga
      subst mimg
      subst mha
      subst mlight
      subst mll
      subst mnoted
      subst rows
      subst msa
      subst mseats
      subst mtall
      subst mwl
      subst mways
      subst mwide
      refine ok_L_town_0_107_p (by decide) (zwp_of hw2 ?_)
      refine ⟨k, 7, 19, _, _, rfl, rfl, ?_⟩
      refine ok_X12_town_75 (by decide) (zwp_of hs2 ?_)
      refine ⟨_, _, _, rfl, rfl, hk.symm, fun h => hans (hk.symm.trans h), ?_⟩
      exact ⟨Or.inl ⟨rfl, rfl⟩, P, hr, pn, wl, nx, na, nn, ns, sz, hP, hm, hN, hD, hRf, hNo, hS, hIm, hT, rfl, rfl, eF, eDa, eW, eH, eFg, eSt, eWy, eNs, eNl, eLt, eDb, eGc, eGn, eHc, eHn, eHr, ePn, eWl, eNf, eNx, eNa, eNn, mW, mH, mF, mNs, mNl, mDb, mNa, mNn⟩
    · have hw0 := l_town (m_ar := J 107) (sp := some (nI k2)) (Q := fun x => x = (sw, o0, o1, o2, o3, o4, o5, o6, o7, o8, o9, o10, o11, o12, o13, o14, o15, o16, o17, o18, o19, o20, o21, o22, o23, o24, o25, o26, o27, o28, o29, o30, o31, o32, o33, o34, o35, o36, o37, o38, o39, o40, o41, o42)) (zwp_of hr1 ⟨r1, rfl⟩)
      obtain ⟨⟨k, sw2, oj, tt⟩, hw, hk, hans, ho⟩ := zwp_get hw0
      dsimp only at hk hans ho
      injection ho with ho0 ho1
      subst ho0
      subst ho1
      have hw2 : f_L_town a1 1 (J 107) (I 36 2) (I 36 3) (I 0 2) (I 0 8) (I 32) (I 31 3) (I 34) (I 31 0) (I 35) (I 31 1) (I 33) (J 31 2) (I 3 1) (I 4 4) (I 4 2) (I 4 3) (I 4 5) (I 5) (I 4 1) (I 6) (I 19 12) (I 19 11) (I 19 3) (I 27) (I 25 2) (I 19 1) (I 30) (I 28 2) (I 24) (I 19 9) (I 23) (I 19 7) (I 20) (I 21) (J 19 2) (I 22) (I 19 0) (I 2) (I 1 4) (I 1 5) (I 1 2) (I 1 6) (I 1 3) (I 1 1) = some (k, sw2, oj, o0, o1, o2, o3, o4, o5, o6, o7, o8, o9, o10, o11, o12, o13, o14, o15, o16, o17, o18, o19, o20, o21, o22, o23, o24, o25, o26, o27, o28, o29, o30, o31, o32, o33, o34, o35, o36, o37, o38, o39, o40, o41, o42) := by rw [eT1]; exact hw
      clear hw hw0 hr1
      subst esw
      subst sb
      subst thr
      subst fpl
      subst mfp
      subst refd
      subst mrefd
      subst tsz
      subst mtsz
      subst acts
      subst notes
      subst imgd
      subst ncell
      subst nfig
      subst nheld
      subst nhr
      subst nlead
      subst npn
      subst nsore
      subst nwls
      subst macts
      subst mcode
      subst mdull
      subst mfig
      subst mga
      subst mimg
      subst mha
      subst mlight
      subst mll
      subst mnoted
      subst rows
      subst msa
      subst mseats
      subst mtall
      subst mwl
      subst mways
      subst mwide
      refine ok_L_town_0_107_p (by decide) (zwp_of hw2 ?_)
      refine ⟨k, 7, 19, _, _, rfl, rfl, ?_⟩
      refine ok_X12_town_75 (by decide) (zwp_of hs2 ?_)
      refine ⟨_, _, _, rfl, rfl, hk.symm, fun h => hans (hk.symm.trans h), ?_⟩
      exact ⟨Or.inl ⟨rfl, rfl⟩, P, hr, pn, wl, nx, na, nn, ns, 0, hP, hm, hN, hD, rf_up hRf, hNo, hS, hIm, ⟨Nat.zero_le _, fun i h => absurd h (Nat.not_lt_zero i)⟩, rfl, rfl, rfl, eDa, eW, eH, eFg, eSt, eWy, eNs, eNl, eLt, eDb, eGc, eGn, eHc, eHn, eHr, ePn, eWl, eNf, eNx, eNa, eNn, mW, mH, mF, mNs, mNl, mDb, mNa, mNn⟩
    · have hw0 := l_town (m_ar := J 107) (sp := some 0) (Q := fun x => x = (sw, o0, o1, o2, o3, o4, o5, o6, o7, o8, o9, o10, o11, o12, o13, o14, o15, o16, o17, o18, o19, o20, o21, o22, o23, o24, o25, o26, o27, o28, o29, o30, o31, o32, o33, o34, o35, o36, o37, o38, o39, o40, o41, o42)) (zwp_of hr1 ⟨r1, rfl⟩)
      obtain ⟨⟨k, sw2, oj, tt⟩, hw, hk, hans, ho⟩ := zwp_get hw0
      dsimp only at hk hans ho
      injection ho with ho0 ho1
      subst ho0
      subst ho1
      have hw2 : f_L_town a1 1 (J 107) (I 36 2) (I 36 3) (I 0 2) (I 0 8) (I 32) (I 31 3) (I 34) (I 31 0) (I 35) (I 31 1) (I 33) (J 31 2) (I 3 1) (I 4 4) (I 4 2) (I 4 3) (I 4 5) (I 5) (I 4 1) (I 6) (I 19 12) (I 19 11) (I 19 3) (I 27) (I 25 2) (I 19 1) (I 30) (I 28 2) (I 24) (I 19 9) (I 23) (I 19 7) (I 20) (I 21) (J 19 2) (I 22) (I 19 0) (I 2) (I 1 4) (I 1 5) (I 1 2) (I 1 6) (I 1 3) (I 1 1) = some (k, sw2, oj, o0, o1, o2, o3, o4, o5, o6, o7, o8, o9, o10, o11, o12, o13, o14, o15, o16, o17, o18, o19, o20, o21, o22, o23, o24, o25, o26, o27, o28, o29, o30, o31, o32, o33, o34, o35, o36, o37, o38, o39, o40, o41, o42) := by rw [eT1]; exact hw
      clear hw hw0 hr1
      subst esw
      subst sb
      subst thr
      subst fpl
      subst mfp
      subst refd
      subst mrefd
      subst tsz
      subst mtsz
      subst acts
      subst notes
      subst imgd
      subst macts
      subst mnoted
      subst mimg
      refine ok_L_town_0_107_p (by decide) (zwp_of hw2 ?_)
      refine ⟨k, 19, 7, _, _, rfl, rfl, ?_⟩
      refine ok_X12_town_75 (by decide) (zwp_of hs2 ?_)
      refine ⟨_, _, _, rfl, rfl, hk.symm, fun h => hans (hk.symm.trans h), ?_⟩
      exact ⟨Or.inr ⟨rfl, rfl⟩, P2, 0, 0, wl2, nx, 0, 0, ns2, 0, hP2, hm2, hN2, ⟨hD.1, Nat.zero_le _, fun i h => absurd h (Nat.not_lt_zero i)⟩, hRf, ⟨Nat.zero_le _, fun i h => absurd h (Nat.not_lt_zero i)⟩, hS2, ⟨rfl, Or.inl rfl⟩, ⟨Nat.zero_le _, fun i h => absurd h (Nat.not_lt_zero i)⟩, rfl, rfl, rfl, eDa, sww, shh, sfg, ssp, swy, sss, slts, slt, sdb, sgc, sgs, shc, shs, nhr, npn, nwls, nfig, eNx, rfl, rfl, mwide, mtall, mfig, mseats, mll, mdull, rfl, rfl⟩
  · replace hS : SeatR P ns (I 23) (I 78) := hS
    replace eW : I 19 0 = nI (qW P) := eW
    replace eH : I 19 1 = nI (qH P) := eH
    replace eFg : I 19 3 = nI (qF P) := eFg
    replace eSt : I 21 = qSt P := eSt
    replace eWy : I 22 = qWy P := eWy
    replace eNs : I 19 7 = nI ns := eNs
    replace eNl : I 19 9 = nI (qNl P) := eNl
    replace eLt : I 24 = qLt P := eLt
    replace eDb : I 19 12 = qDb P := eDb
    replace eGc : I 27 = qGc P := eGc
    replace eGn : I 25 2 = nI (qGn P) := eGn
    replace eHc : I 30 = qHc P := eHc
    replace eHn : I 28 2 = nI (qHn P) := eHn
    obtain ⟨⟨r0, sw, o0, o1, o2, o3, o4, o5, o6, o7, o8, o9, o10, o11, o12, o13, o14, o15, o16, o17, o18, o19, o20, o21, o22, o23, o24, o25, o26, o27, o28, o29, o30, o31, o32, o33, o34, o35, o36, o37, o38, o39, o40, o41, o42⟩, hr1, h2⟩ := zwp_get (show zwp (f_X11_town a1 (I 36 2) (I 36 3) (I 0 2) (I 0 8) (I 32) (I 31 3) (I 34) (I 31 0) (I 35) (I 31 1) (I 33) (J 31 2) (I 3 1) (I 4 4) (I 4 2) (I 4 3) (I 4 5) (I 5) (I 4 1) (I 6) (I 7 12) (I 7 11) (I 7 3) (I 15) (I 13 2) (I 7 1) (I 18) (I 16 2) (I 12) (I 7 9) (I 11) (I 7 7) (I 8) (I 9) (J 7 2) (I 10) (I 7 0) (I 2) (I 1 4) (I 1 5) (I 1 2) (I 1 6) (I 1 3) (nI sz)) _ from cm_town (macts := I 75 50) (mcode := I 80) (mdp := I 75 39) (mdull := I 75 6) (mfk := I 75 16) (mfp := I 75 17) (mfig := I 75 3) (fv := I 75 36) (mga := I 75 7) (mimg := I 75 65) (mha := I 75 8) (lv := I 75 37) (mlight := I 79) (mll := I 75 5) (l0 := I 75 23) (ml1 := I 75 19) (nd := I 75 32) (nf := I 75 29) (nga := I 75 33) (nha := I 75 34) (nl := I 86) (nll := I 75 31) (nr := I 87) (nsa := I 85) (nss := I 75 30) (ntall := I 75 28) (nwl := I 83) (nw := I 84) (nwide := I 75 27) (nx := I 75 20) (mnoted := I 75 60) (mpl := I 75 22) (rc := I 88) (mrefd := I 82) (rows := I 91) (msa := I 78) (mseats := I 75 4) (sg := I 75 25) (so := I 75 21) (mtall := I 75 2) (tape := I 81) (ts := I 90) (mthr := I 75 0) (tp := I 75 35) (va := I 75 24) (wn := I 75 38) (ws := I 89) (mwl := I 76) (mways := I 77) (mwide := I 75 1) (wd := J 75 26) hT)
    obtain ⟨⟨b, s0, s1, s2, s3, s4, s5, s6, s7, s8, s9, s10, s11, s12, s13, s14, s15, s16, s17, s18, s19, s20, s21, s22, s23, s24, s25, s26, s27, s28, s29, s30, s31, s32, s33, s34, s35, s36, s37, s38, s39, s40, s41, s42, s43, s44, s45, s46, s47, s48, s49, s50⟩, hs, hc⟩ := zwp_get h2
    have hs2 : f_X12_town a1 (I 75 50) (I 80) (I 75 39) (I 75 6) (I 75 16) (I 75 17) (I 75 3) (I 75 36) (I 75 7) (I 75 65) (I 75 8) (I 75 37) (I 79) (I 75 5) (I 75 23) (I 75 19) (I 75 32) (I 75 29) (I 75 33) (I 75 34) (I 86) (I 75 31) (I 87) (I 85) (I 75 30) (I 75 28) (I 83) (I 84) (I 75 27) (I 75 20) (I 75 60) (I 75 22) (I 88) (I 82) (I 91) (I 78) (I 75 4) (I 75 25) (I 75 21) (I 75 2) (I 81) (I 75 15) (I 90) (I 75 0) (I 75 35) (I 75 24) (I 75 38) (I 89) (I 76) (I 77) (I 75 1) (J 75 26) = some (b, s0, s1, s2, s3, s4, s5, s6, s7, s8, s9, s10, s11, s12, s13, s14, s15, s16, s17, s18, s19, s20, s21, s22, s23, s24, s25, s26, s27, s28, s29, s30, s31, s32, s33, s34, s35, s36, s37, s38, s39, s40, s41, s42, s43, s44, s45, s46, s47, s48, s49, s50) := by rw [eT2]; exact hs
    dsimp only at hc
    clear hs h2
    rcases hc with ⟨r1, esw, sb, thr, fpl, mfp, refd, mrefd, tsz, mtsz, acts, notes, imgd, ncell, nfig, nheld, nhr, nlead, npn, nsore, nwls, macts, mcode, mdull, mfig, mga, mimg, mha, mlight, mll, mnoted, rows, msa, mseats, mtall, mwl, mways, mwide⟩ | ⟨k2, q2, r1, esw, sb, thr, fpl, mfp, refd, mrefd, tsz, mtsz, acts, notes, imgd, ncell, nfig, nheld, nhr, nlead, npn, nsore, nwls, macts, mcode, mdull, mfig, mga, mimg, mha, mlight, mll, mnoted, rows, msa, mseats, mtall, mwl, mways, mwide⟩ | ⟨r1, esw, sb, thr, fpl, mfp, refd, mrefd, tsz, mtsz, acts, notes, imgd, macts, mnoted, mimg, P2, wl2, ns2, hP2, hm2, hN2, hS2, nfig, nhr, npn, nwls, sdb, sfg, sgc, sgs, shh, shc, shs, slt, slts, sss, ssp, swy, sww, mfig, mll, mseats, mtall, mwide, mdull⟩
    · have hw0 := l_town (m_ar := J 107) (sp := none) (Q := fun x => x = (sw, o0, o1, o2, o3, o4, o5, o6, o7, o8, o9, o10, o11, o12, o13, o14, o15, o16, o17, o18, o19, o20, o21, o22, o23, o24, o25, o26, o27, o28, o29, o30, o31, o32, o33, o34, o35, o36, o37, o38, o39, o40, o41, o42)) (zwp_of hr1 ⟨r1, rfl⟩)
      obtain ⟨⟨k, sw2, oj, tt⟩, hw, hk, hans, ho⟩ := zwp_get hw0
      dsimp only at hk hans ho
      injection ho with ho0 ho1
      subst ho0
      subst ho1
      have hw2 : f_L_town a1 1 (J 107) (I 36 2) (I 36 3) (I 0 2) (I 0 8) (I 32) (I 31 3) (I 34) (I 31 0) (I 35) (I 31 1) (I 33) (J 31 2) (I 3 1) (I 4 4) (I 4 2) (I 4 3) (I 4 5) (I 5) (I 4 1) (I 6) (I 7 12) (I 7 11) (I 7 3) (I 15) (I 13 2) (I 7 1) (I 18) (I 16 2) (I 12) (I 7 9) (I 11) (I 7 7) (I 8) (I 9) (J 7 2) (I 10) (I 7 0) (I 2) (I 1 4) (I 1 5) (I 1 2) (I 1 6) (I 1 3) (I 1 1) = some (k, sw2, oj, o0, o1, o2, o3, o4, o5, o6, o7, o8, o9, o10, o11, o12, o13, o14, o15, o16, o17, o18, o19, o20, o21, o22, o23, o24, o25, o26, o27, o28, o29, o30, o31, o32, o33, o34, o35, o36, o37, o38, o39, o40, o41, o42) := by rw [eT1]; exact hw
      clear hw hw0 hr1
      subst esw
      subst sb
      subst thr
      subst fpl
      subst mfp
      subst refd
      subst mrefd
      subst tsz
      subst mtsz
      subst acts
      subst notes
      subst imgd
      subst ncell
      subst nfig
      subst nheld
      subst nhr
      subst nlead
      subst npn
      subst nsore
      subst nwls
      subst macts
      subst mcode
      subst mdull
      subst mfig
      subst mga
      subst mimg
      subst mha
      subst mlight
      subst mll
      subst mnoted
      subst rows
      subst msa
      subst mseats
      subst mtall
      subst mwl
      subst mways
      subst mwide
      refine ok_L_town_0_107_q (by decide) (zwp_of hw2 ?_)
      refine ⟨k, 19, 7, _, _, rfl, rfl, ?_⟩
      refine ok_X12_town_75 (by decide) (zwp_of hs2 ?_)
      refine ⟨_, _, _, rfl, rfl, hk.symm, fun h => hans (hk.symm.trans h), ?_⟩
      exact ⟨Or.inr ⟨rfl, rfl⟩, P, hr, pn, wl, nx, na, nn, ns, sz, hP, hm, hN, hD, hRf, hNo, hS, hIm, hT, rfl, rfl, eF, eDa, eW, eH, eFg, eSt, eWy, eNs, eNl, eLt, eDb, eGc, eGn, eHc, eHn, eHr, ePn, eWl, eNf, eNx, eNa, eNn, mW, mH, mF, mNs, mNl, mDb, mNa, mNn⟩
    · have hw0 := l_town (m_ar := J 107) (sp := some (nI k2)) (Q := fun x => x = (sw, o0, o1, o2, o3, o4, o5, o6, o7, o8, o9, o10, o11, o12, o13, o14, o15, o16, o17, o18, o19, o20, o21, o22, o23, o24, o25, o26, o27, o28, o29, o30, o31, o32, o33, o34, o35, o36, o37, o38, o39, o40, o41, o42)) (zwp_of hr1 ⟨r1, rfl⟩)
      obtain ⟨⟨k, sw2, oj, tt⟩, hw, hk, hans, ho⟩ := zwp_get hw0
      dsimp only at hk hans ho
      injection ho with ho0 ho1
      subst ho0
      subst ho1
      have hw2 : f_L_town a1 1 (J 107) (I 36 2) (I 36 3) (I 0 2) (I 0 8) (I 32) (I 31 3) (I 34) (I 31 0) (I 35) (I 31 1) (I 33) (J 31 2) (I 3 1) (I 4 4) (I 4 2) (I 4 3) (I 4 5) (I 5) (I 4 1) (I 6) (I 7 12) (I 7 11) (I 7 3) (I 15) (I 13 2) (I 7 1) (I 18) (I 16 2) (I 12) (I 7 9) (I 11) (I 7 7) (I 8) (I 9) (J 7 2) (I 10) (I 7 0) (I 2) (I 1 4) (I 1 5) (I 1 2) (I 1 6) (I 1 3) (I 1 1) = some (k, sw2, oj, o0, o1, o2, o3, o4, o5, o6, o7, o8, o9, o10, o11, o12, o13, o14, o15, o16, o17, o18, o19, o20, o21, o22, o23, o24, o25, o26, o27, o28, o29, o30, o31, o32, o33, o34, o35, o36, o37, o38, o39, o40, o41, o42) := by rw [eT1]; exact hw
      clear hw hw0 hr1
      subst esw
      subst sb
      subst thr
      subst fpl
      subst mfp
      subst refd
      subst mrefd
      subst tsz
      subst mtsz
      subst acts
      subst notes
      subst imgd
      subst ncell
      subst nfig
      subst nheld
      subst nhr
      subst nlead
      subst npn
      subst nsore
      subst nwls
      subst macts
      subst mcode
      subst mdull
      subst mfig
      subst mga
      subst mimg
      subst mha
      subst mlight
      subst mll
      subst mnoted
      subst rows
      subst msa
      subst mseats
      subst mtall
      subst mwl
      subst mways
      subst mwide
      refine ok_L_town_0_107_q (by decide) (zwp_of hw2 ?_)
      refine ⟨k, 19, 7, _, _, rfl, rfl, ?_⟩
      refine ok_X12_town_75 (by decide) (zwp_of hs2 ?_)
      refine ⟨_, _, _, rfl, rfl, hk.symm, fun h => hans (hk.symm.trans h), ?_⟩
      exact ⟨Or.inr ⟨rfl, rfl⟩, P, hr, pn, wl, nx, na, nn, ns, 0, hP, hm, hN, hD, rf_up hRf, hNo, hS, hIm, ⟨Nat.zero_le _, fun i h => absurd h (Nat.not_lt_zero i)⟩, rfl, rfl, rfl, eDa, eW, eH, eFg, eSt, eWy, eNs, eNl, eLt, eDb, eGc, eGn, eHc, eHn, eHr, ePn, eWl, eNf, eNx, eNa, eNn, mW, mH, mF, mNs, mNl, mDb, mNa, mNn⟩
    · have hw0 := l_town (m_ar := J 107) (sp := some 0) (Q := fun x => x = (sw, o0, o1, o2, o3, o4, o5, o6, o7, o8, o9, o10, o11, o12, o13, o14, o15, o16, o17, o18, o19, o20, o21, o22, o23, o24, o25, o26, o27, o28, o29, o30, o31, o32, o33, o34, o35, o36, o37, o38, o39, o40, o41, o42)) (zwp_of hr1 ⟨r1, rfl⟩)
      obtain ⟨⟨k, sw2, oj, tt⟩, hw, hk, hans, ho⟩ := zwp_get hw0
      dsimp only at hk hans ho
      injection ho with ho0 ho1
      subst ho0
      subst ho1
      have hw2 : f_L_town a1 1 (J 107) (I 36 2) (I 36 3) (I 0 2) (I 0 8) (I 32) (I 31 3) (I 34) (I 31 0) (I 35) (I 31 1) (I 33) (J 31 2) (I 3 1) (I 4 4) (I 4 2) (I 4 3) (I 4 5) (I 5) (I 4 1) (I 6) (I 7 12) (I 7 11) (I 7 3) (I 15) (I 13 2) (I 7 1) (I 18) (I 16 2) (I 12) (I 7 9) (I 11) (I 7 7) (I 8) (I 9) (J 7 2) (I 10) (I 7 0) (I 2) (I 1 4) (I 1 5) (I 1 2) (I 1 6) (I 1 3) (I 1 1) = some (k, sw2, oj, o0, o1, o2, o3, o4, o5, o6, o7, o8, o9, o10, o11, o12, o13, o14, o15, o16, o17, o18, o19, o20, o21, o22, o23, o24, o25, o26, o27, o28, o29, o30, o31, o32, o33, o34, o35, o36, o37, o38, o39, o40, o41, o42) := by rw [eT1]; exact hw
      clear hw hw0 hr1
      subst esw
      subst sb
      subst thr
      subst fpl
      subst mfp
      subst refd
      subst mrefd
      subst tsz
      subst mtsz
      subst acts
      subst notes
      subst imgd
      subst macts
      subst mnoted
      subst mimg
      refine ok_L_town_0_107_q (by decide) (zwp_of hw2 ?_)
      refine ⟨k, 7, 19, _, _, rfl, rfl, ?_⟩
      refine ok_X12_town_75 (by decide) (zwp_of hs2 ?_)
      refine ⟨_, _, _, rfl, rfl, hk.symm, fun h => hans (hk.symm.trans h), ?_⟩
      exact ⟨Or.inl ⟨rfl, rfl⟩, P2, 0, 0, wl2, nx, 0, 0, ns2, 0, hP2, hm2, hN2, ⟨hD.1, Nat.zero_le _, fun i h => absurd h (Nat.not_lt_zero i)⟩, hRf, ⟨Nat.zero_le _, fun i h => absurd h (Nat.not_lt_zero i)⟩, hS2, ⟨rfl, Or.inl rfl⟩, ⟨Nat.zero_le _, fun i h => absurd h (Nat.not_lt_zero i)⟩, rfl, rfl, rfl, eDa, sww, shh, sfg, ssp, swy, sss, slts, slt, sdb, sgc, sgs, shc, shs, nhr, npn, nwls, nfig, eNx, rfl, rfl, mwide, mtall, mfig, mseats, mll, mdull, rfl, rfl⟩
