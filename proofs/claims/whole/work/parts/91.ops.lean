/-! the questions -/
theorem op_then {p q : Nat} {I : pI} {J : pJ} (H : Inv p q I J) (a1 a2 a3 : Int32) : OpH 280 229 [.int a1, .int a2, .int a3] p q I J := by
  obtain ⟨hpq, P, hr, pn, wl, nx, na, nn, ns, sz, hP, hm, hN, hD, hRf, hNo, hS, hIm, hT, eT1, eT2, eF, eDa, eW, eH, eFg, eSt, eWy, eNs, eNl, eLt, eDb, eGc, eGn, eHc, eHn, eHr, ePn, eWl, eNf, eNx, eNa, eNn, mW, mH, mF, mNs, mNl, mDb, mNa, mNn⟩ := H
  rcases hpq with ⟨rfl, rfl⟩ | ⟨rfl, rfl⟩
  · replace hS : SeatR P ns (I 11) (I 78) := hS
    replace eW : I 7 0 = nI (qW P) := eW
    replace eH : I 7 1 = nI (qH P) := eH
    replace eFg : I 7 3 = nI (qF P) := eFg
    replace eSt : I 9 = qSt P := eSt
    replace eWy : I 10 = qWy P := eWy
    replace eNs : I 7 7 = nI ns := eNs
    replace eNl : I 7 9 = nI (qNl P) := eNl
    replace eLt : I 12 = qLt P := eLt
    replace eDb : I 7 12 = qDb P := eDb
    replace eGc : I 15 = qGc P := eGc
    replace eGn : I 13 2 = nI (qGn P) := eGn
    replace eHc : I 18 = qHc P := eHc
    replace eHn : I 16 2 = nI (qHn P) := eHn
    obtain ⟨⟨r0, r2⟩, hr1, h1⟩ := zwp_get (show zwp (f_X11_then a1 a2 a3 (I 54) (I 53 3) (I 56) (I 53 0) (I 57) (I 53 1) (I 55) (J 53 2) (I 52) (I 32) (nI (qF P)) (I 34) (nI hr) (I 35) (nI pn) (I 33) (lN wl) (qDb P) (nI (qF P)) (qGc P) (nI (qGn P)) (I 14) (nI (qH P)) (qHc P) (nI (qHn P)) (I 17) (qLt P) (nI (qNl P)) (qSt P) (qWy P) (nI (qW P))) _ from c_then hP hN)
    obtain ⟨⟨k, oj, o0, o1, o2, o3, o4, o5, o6, o7, o8, o9, o10⟩, hw, hk, hans, ho⟩ := zwp_get (l_then (m_ar := J 107) (Q := fun x => x = r2) (zwp_of hr1 ⟨h1, rfl⟩))
    obtain ⟨⟨b, s0, s1, s2, s3⟩, hs, hb, hthr, hrw⟩ := zwp_get (show zwp (f_X12_then a1 a2 a3 (I 80) (qDb P) (-1) (nI (qF P)) (I 75 7) (I 75 8) (I 79) (nI (qNl P)) (I 94) (I 91) (nI (qH P)) (I 75 0) (I 93) (I 76) (I 77) (nI (qW P))) _ from m_then (fcell := I 54) (fsore := I 55) (fheld := I 56) hP hm hN)
    have hw2 : f_L_then a1 a2 a3 1 (J 107) (I 54) (I 53 3) (I 56) (I 53 0) (I 57) (I 53 1) (I 55) (J 53 2) (I 52) (I 32) (I 31 3) (I 34) (I 31 0) (I 35) (I 31 1) (I 33) (J 31 2) (I 7 12) (I 7 3) (I 15) (I 13 2) (I 14) (I 7 1) (I 18) (I 16 2) (I 17) (I 12) (I 7 9) (I 9) (I 10) (I 7 0) = some (k, oj, o0, o1, o2, o3, o4, o5, o6, o7, o8, o9, o10) := by rw [eNf, eHr, ePn, eWl, eDb, eFg, eGc, eGn, eH, eHc, eHn, eLt, eNl, eSt, eWy, eW]; exact hw
    have hs2 : f_X12_then a1 a2 a3 (I 80) (I 75 6) (I 75 53) (I 75 3) (I 75 7) (I 75 8) (I 79) (I 75 5) (I 94) (I 91) (I 75 2) (I 75 0) (I 93) (I 76) (I 77) (I 75 1) = some (b, s0, s1, s2, s3) := by rw [mDb, eDa, mF, mNl, mH, mW]; exact hs
    refine ok_L_then_0_107_p (by decide) (zwp_of hw2 ?_)
    refine ⟨k, 7, 19, _, _, rfl, rfl, ?_⟩
    refine ok_X12_then_75 (by decide) (zwp_of hs2 ?_)
    refine ⟨b, _, _, rfl, rfl, hthr.trans hk.symm, fun h => (hans (hk.symm.trans h)).trans (congrArg Int32.toInt64 hb.symm), ?_⟩
    exact ⟨Or.inl ⟨rfl, rfl⟩, P, hr, pn, wl, nx, na, nn, ns, sz, hP, hm, hN.fr hP hrw, hD, hRf, hNo, hS, hIm, hT, eT1, eT2, eF, eDa, eW, eH, eFg, eSt, eWy, eNs, eNl, eLt, eDb, eGc, eGn, eHc, eHn, eHr, ePn, eWl, eNf, eNx, eNa, eNn, mW, mH, mF, mNs, mNl, mDb, mNa, mNn⟩
  · replace hS : SeatR P ns (I 23) (I 78) := hS
    replace eW : I 19 0 = nI (qW P) := eW
    replace eH : I 19 1 = nI (qH P) := eH
    replace eFg : I 19 3 = nI (qF P) := eFg
    replace eSt : I 21 = qSt P := eSt
    replace eWy : I 22 = qWy P := eWy
    replace eNs : I 19 7 = nI ns := eNs
    replace eNl : I 19 9 = nI (qNl P) := eNl
    replace eLt : I 24 = qLt P := eLt
    replace eDb : I 19 12 = qDb P := eDb
    replace eGc : I 27 = qGc P := eGc
    replace eGn : I 25 2 = nI (qGn P) := eGn
    replace eHc : I 30 = qHc P := eHc
    replace eHn : I 28 2 = nI (qHn P) := eHn
    obtain ⟨⟨r0, r2⟩, hr1, h1⟩ := zwp_get (show zwp (f_X11_then a1 a2 a3 (I 54) (I 53 3) (I 56) (I 53 0) (I 57) (I 53 1) (I 55) (J 53 2) (I 52) (I 32) (nI (qF P)) (I 34) (nI hr) (I 35) (nI pn) (I 33) (lN wl) (qDb P) (nI (qF P)) (qGc P) (nI (qGn P)) (I 26) (nI (qH P)) (qHc P) (nI (qHn P)) (I 29) (qLt P) (nI (qNl P)) (qSt P) (qWy P) (nI (qW P))) _ from c_then hP hN)
    obtain ⟨⟨k, oj, o0, o1, o2, o3, o4, o5, o6, o7, o8, o9, o10⟩, hw, hk, hans, ho⟩ := zwp_get (l_then (m_ar := J 107) (Q := fun x => x = r2) (zwp_of hr1 ⟨h1, rfl⟩))
    obtain ⟨⟨b, s0, s1, s2, s3⟩, hs, hb, hthr, hrw⟩ := zwp_get (show zwp (f_X12_then a1 a2 a3 (I 80) (qDb P) (-1) (nI (qF P)) (I 75 7) (I 75 8) (I 79) (nI (qNl P)) (I 94) (I 91) (nI (qH P)) (I 75 0) (I 93) (I 76) (I 77) (nI (qW P))) _ from m_then (fcell := I 54) (fsore := I 55) (fheld := I 56) hP hm hN)
    have hw2 : f_L_then a1 a2 a3 1 (J 107) (I 54) (I 53 3) (I 56) (I 53 0) (I 57) (I 53 1) (I 55) (J 53 2) (I 52) (I 32) (I 31 3) (I 34) (I 31 0) (I 35) (I 31 1) (I 33) (J 31 2) (I 19 12) (I 19 3) (I 27) (I 25 2) (I 26) (I 19 1) (I 30) (I 28 2) (I 29) (I 24) (I 19 9) (I 21) (I 22) (I 19 0) = some (k, oj, o0, o1, o2, o3, o4, o5, o6, o7, o8, o9, o10) := by rw [eNf, eHr, ePn, eWl, eDb, eFg, eGc, eGn, eH, eHc, eHn, eLt, eNl, eSt, eWy, eW]; exact hw
    have hs2 : f_X12_then a1 a2 a3 (I 80) (I 75 6) (I 75 53) (I 75 3) (I 75 7) (I 75 8) (I 79) (I 75 5) (I 94) (I 91) (I 75 2) (I 75 0) (I 93) (I 76) (I 77) (I 75 1) = some (b, s0, s1, s2, s3) := by rw [mDb, eDa, mF, mNl, mH, mW]; exact hs
    refine ok_L_then_0_107_q (by decide) (zwp_of hw2 ?_)
    refine ⟨k, 19, 7, _, _, rfl, rfl, ?_⟩
    refine ok_X12_then_75 (by decide) (zwp_of hs2 ?_)
    refine ⟨b, _, _, rfl, rfl, hthr.trans hk.symm, fun h => (hans (hk.symm.trans h)).trans (congrArg Int32.toInt64 hb.symm), ?_⟩
    exact ⟨Or.inr ⟨rfl, rfl⟩, P, hr, pn, wl, nx, na, nn, ns, sz, hP, hm, hN.fr hP hrw, hD, hRf, hNo, hS, hIm, hT, eT1, eT2, eF, eDa, eW, eH, eFg, eSt, eWy, eNs, eNl, eLt, eDb, eGc, eGn, eHc, eHn, eHr, ePn, eWl, eNf, eNx, eNa, eNn, mW, mH, mF, mNs, mNl, mDb, mNa, mNn⟩
theorem op_comes {p q : Nat} {I : pI} {J : pJ} (H : Inv p q I J) (a1 a2 : Int32) : OpH 281 230 [.int a1, .int a2] p q I J := by
  obtain ⟨hpq, P, hr, pn, wl, nx, na, nn, ns, sz, hP, hm, hN, hD, hRf, hNo, hS, hIm, hT, eT1, eT2, eF, eDa, eW, eH, eFg, eSt, eWy, eNs, eNl, eLt, eDb, eGc, eGn, eHc, eHn, eHr, ePn, eWl, eNf, eNx, eNa, eNn, mW, mH, mF, mNs, mNl, mDb, mNa, mNn⟩ := H
  rcases hpq with ⟨rfl, rfl⟩ | ⟨rfl, rfl⟩
  · replace hS : SeatR P ns (I 11) (I 78) := hS
    replace eW : I 7 0 = nI (qW P) := eW
    replace eH : I 7 1 = nI (qH P) := eH
    replace eFg : I 7 3 = nI (qF P) := eFg
    replace eSt : I 9 = qSt P := eSt
    replace eWy : I 10 = qWy P := eWy
    replace eNs : I 7 7 = nI ns := eNs
    replace eNl : I 7 9 = nI (qNl P) := eNl
    replace eLt : I 12 = qLt P := eLt
    replace eDb : I 7 12 = qDb P := eDb
    replace eGc : I 15 = qGc P := eGc
    replace eGn : I 13 2 = nI (qGn P) := eGn
    replace eHc : I 18 = qHc P := eHc
    replace eHn : I 16 2 = nI (qHn P) := eHn
    obtain ⟨⟨r0, r2⟩, hr1, h1⟩ := zwp_get (show zwp (f_X11_comes a1 a2 (I 54) (I 53 3) (I 56) (I 53 0) (I 57) (I 53 1) (I 55) (J 53 2) (I 52) (I 32) (nI (qF P)) (I 34) (nI hr) (I 35) (nI pn) (I 33) (lN wl) (qDb P) (nI (qF P)) (qGc P) (nI (qGn P)) (I 14) (nI (qH P)) (qHc P) (nI (qHn P)) (I 17) (qLt P) (nI (qNl P)) (qSt P) (qWy P) (nI (qW P))) _ from c_comes hP hN)
    obtain ⟨⟨k, oj, o0, o1, o2, o3, o4, o5, o6, o7, o8, o9, o10⟩, hw, hk, hans, ho⟩ := zwp_get (l_comes (m_ar := J 107) (Q := fun x => x = r2) (zwp_of hr1 ⟨h1, rfl⟩))
    obtain ⟨⟨b, s0, s1, s2, s3⟩, hs, hb, hthr, hrw⟩ := zwp_get (show zwp (f_X12_comes a1 a2 (I 80) (qDb P) (-1) (nI (qF P)) (I 75 7) (I 75 8) (I 79) (nI (qNl P)) (I 94) (I 91) (nI (qH P)) (I 75 0) (I 93) (I 76) (I 77) (nI (qW P))) _ from m_comes (fcell := I 54) (fsore := I 55) (fheld := I 56) hP hm hN)
    have hw2 : f_L_comes a1 a2 1 (J 107) (I 54) (I 53 3) (I 56) (I 53 0) (I 57) (I 53 1) (I 55) (J 53 2) (I 52) (I 32) (I 31 3) (I 34) (I 31 0) (I 35) (I 31 1) (I 33) (J 31 2) (I 7 12) (I 7 3) (I 15) (I 13 2) (I 14) (I 7 1) (I 18) (I 16 2) (I 17) (I 12) (I 7 9) (I 9) (I 10) (I 7 0) = some (k, oj, o0, o1, o2, o3, o4, o5, o6, o7, o8, o9, o10) := by rw [eNf, eHr, ePn, eWl, eDb, eFg, eGc, eGn, eH, eHc, eHn, eLt, eNl, eSt, eWy, eW]; exact hw
    have hs2 : f_X12_comes a1 a2 (I 80) (I 75 6) (I 75 53) (I 75 3) (I 75 7) (I 75 8) (I 79) (I 75 5) (I 94) (I 91) (I 75 2) (I 75 0) (I 93) (I 76) (I 77) (I 75 1) = some (b, s0, s1, s2, s3) := by rw [mDb, eDa, mF, mNl, mH, mW]; exact hs
    refine ok_L_comes_0_107_p (by decide) (zwp_of hw2 ?_)
    refine ⟨k, 7, 19, _, _, rfl, rfl, ?_⟩
    refine ok_X12_comes_75 (by decide) (zwp_of hs2 ?_)
    refine ⟨b, _, _, rfl, rfl, hthr.trans hk.symm, fun h => (hans (hk.symm.trans h)).trans (congrArg Int32.toInt64 hb.symm), ?_⟩
    exact ⟨Or.inl ⟨rfl, rfl⟩, P, hr, pn, wl, nx, na, nn, ns, sz, hP, hm, hN.fr hP hrw, hD, hRf, hNo, hS, hIm, hT, eT1, eT2, eF, eDa, eW, eH, eFg, eSt, eWy, eNs, eNl, eLt, eDb, eGc, eGn, eHc, eHn, eHr, ePn, eWl, eNf, eNx, eNa, eNn, mW, mH, mF, mNs, mNl, mDb, mNa, mNn⟩
  · replace hS : SeatR P ns (I 23) (I 78) := hS
    replace eW : I 19 0 = nI (qW P) := eW
    replace eH : I 19 1 = nI (qH P) := eH
    replace eFg : I 19 3 = nI (qF P) := eFg
    replace eSt : I 21 = qSt P := eSt
    replace eWy : I 22 = qWy P := eWy
    replace eNs : I 19 7 = nI ns := eNs
    replace eNl : I 19 9 = nI (qNl P) := eNl
    replace eLt : I 24 = qLt P := eLt
    replace eDb : I 19 12 = qDb P := eDb
    replace eGc : I 27 = qGc P := eGc
    replace eGn : I 25 2 = nI (qGn P) := eGn
    replace eHc : I 30 = qHc P := eHc
    replace eHn : I 28 2 = nI (qHn P) := eHn
    obtain ⟨⟨r0, r2⟩, hr1, h1⟩ := zwp_get (show zwp (f_X11_comes a1 a2 (I 54) (I 53 3) (I 56) (I 53 0) (I 57) (I 53 1) (I 55) (J 53 2) (I 52) (I 32) (nI (qF P)) (I 34) (nI hr) (I 35) (nI pn) (I 33) (lN wl) (qDb P) (nI (qF P)) (qGc P) (nI (qGn P)) (I 26) (nI (qH P)) (qHc P) (nI (qHn P)) (I 29) (qLt P) (nI (qNl P)) (qSt P) (qWy P) (nI (qW P))) _ from c_comes hP hN)
    obtain ⟨⟨k, oj, o0, o1, o2, o3, o4, o5, o6, o7, o8, o9, o10⟩, hw, hk, hans, ho⟩ := zwp_get (l_comes (m_ar := J 107) (Q := fun x => x = r2) (zwp_of hr1 ⟨h1, rfl⟩))
    obtain ⟨⟨b, s0, s1, s2, s3⟩, hs, hb, hthr, hrw⟩ := zwp_get (show zwp (f_X12_comes a1 a2 (I 80) (qDb P) (-1) (nI (qF P)) (I 75 7) (I 75 8) (I 79) (nI (qNl P)) (I 94) (I 91) (nI (qH P)) (I 75 0) (I 93) (I 76) (I 77) (nI (qW P))) _ from m_comes (fcell := I 54) (fsore := I 55) (fheld := I 56) hP hm hN)
    have hw2 : f_L_comes a1 a2 1 (J 107) (I 54) (I 53 3) (I 56) (I 53 0) (I 57) (I 53 1) (I 55) (J 53 2) (I 52) (I 32) (I 31 3) (I 34) (I 31 0) (I 35) (I 31 1) (I 33) (J 31 2) (I 19 12) (I 19 3) (I 27) (I 25 2) (I 26) (I 19 1) (I 30) (I 28 2) (I 29) (I 24) (I 19 9) (I 21) (I 22) (I 19 0) = some (k, oj, o0, o1, o2, o3, o4, o5, o6, o7, o8, o9, o10) := by rw [eNf, eHr, ePn, eWl, eDb, eFg, eGc, eGn, eH, eHc, eHn, eLt, eNl, eSt, eWy, eW]; exact hw
    have hs2 : f_X12_comes a1 a2 (I 80) (I 75 6) (I 75 53) (I 75 3) (I 75 7) (I 75 8) (I 79) (I 75 5) (I 94) (I 91) (I 75 2) (I 75 0) (I 93) (I 76) (I 77) (I 75 1) = some (b, s0, s1, s2, s3) := by rw [mDb, eDa, mF, mNl, mH, mW]; exact hs
    refine ok_L_comes_0_107_q (by decide) (zwp_of hw2 ?_)
    refine ⟨k, 19, 7, _, _, rfl, rfl, ?_⟩
    refine ok_X12_comes_75 (by decide) (zwp_of hs2 ?_)
    refine ⟨b, _, _, rfl, rfl, hthr.trans hk.symm, fun h => (hans (hk.symm.trans h)).trans (congrArg Int32.toInt64 hb.symm), ?_⟩
    exact ⟨Or.inr ⟨rfl, rfl⟩, P, hr, pn, wl, nx, na, nn, ns, sz, hP, hm, hN.fr hP hrw, hD, hRf, hNo, hS, hIm, hT, eT1, eT2, eF, eDa, eW, eH, eFg, eSt, eWy, eNs, eNl, eLt, eDb, eGc, eGn, eHc, eHn, eHr, ePn, eWl, eNf, eNx, eNa, eNn, mW, mH, mF, mNs, mNl, mDb, mNa, mNn⟩
theorem op_meet {p q : Nat} {I : pI} {J : pJ} (H : Inv p q I J) (a1 a2 : Int32) : OpH 282 231 [.int a1, .int a2] p q I J := by
  obtain ⟨hpq, P, hr, pn, wl, nx, na, nn, ns, sz, hP, hm, hN, hD, hRf, hNo, hS, hIm, hT, eT1, eT2, eF, eDa, eW, eH, eFg, eSt, eWy, eNs, eNl, eLt, eDb, eGc, eGn, eHc, eHn, eHr, ePn, eWl, eNf, eNx, eNa, eNn, mW, mH, mF, mNs, mNl, mDb, mNa, mNn⟩ := H
  rcases hpq with ⟨rfl, rfl⟩ | ⟨rfl, rfl⟩
  · replace hS : SeatR P ns (I 11) (I 78) := hS
    replace eW : I 7 0 = nI (qW P) := eW
    replace eH : I 7 1 = nI (qH P) := eH
    replace eFg : I 7 3 = nI (qF P) := eFg
    replace eSt : I 9 = qSt P := eSt
    replace eWy : I 10 = qWy P := eWy
    replace eNs : I 7 7 = nI ns := eNs
    replace eNl : I 7 9 = nI (qNl P) := eNl
    replace eLt : I 12 = qLt P := eLt
    replace eDb : I 7 12 = qDb P := eDb
    replace eGc : I 15 = qGc P := eGc
    replace eGn : I 13 2 = nI (qGn P) := eGn
    replace eHc : I 18 = qHc P := eHc
    replace eHn : I 16 2 = nI (qHn P) := eHn
    obtain ⟨⟨r0, r2⟩, hr1, h1⟩ := zwp_get (show zwp (f_X11_meet a1 a2 (I 54) (I 53 3) (I 56) (I 53 0) (I 57) (I 53 1) (I 55) (J 53 2) (I 52) (I 32) (nI (qF P)) (I 34) (nI hr) (I 35) (nI pn) (I 33) (lN wl) (qDb P) (nI (qF P)) (qGc P) (nI (qGn P)) (I 14) (nI (qH P)) (qHc P) (nI (qHn P)) (I 17) (qLt P) (nI (qNl P)) (qSt P) (qWy P) (nI (qW P))) _ from c_meet hP hN)
    obtain ⟨⟨k, oj, o0, o1, o2, o3, o4, o5, o6, o7, o8, o9, o10⟩, hw, hk, hans, ho⟩ := zwp_get (l_meet (m_ar := J 107) (Q := fun x => x = r2) (zwp_of hr1 ⟨h1, rfl⟩))
    obtain ⟨⟨b, s0, s1, s2, s3⟩, hs, hb, hthr, hrw⟩ := zwp_get (show zwp (f_X12_meet a1 a2 (I 80) (qDb P) (-1) (nI (qF P)) (I 75 7) (I 75 8) (I 79) (nI (qNl P)) (I 94) (I 91) (nI (qH P)) (I 75 0) (I 93) (I 76) (I 77) (nI (qW P))) _ from m_meet (fcell := I 54) (fsore := I 55) (fheld := I 56) hP hm hN)
    have hw2 : f_L_meet a1 a2 1 (J 107) (I 54) (I 53 3) (I 56) (I 53 0) (I 57) (I 53 1) (I 55) (J 53 2) (I 52) (I 32) (I 31 3) (I 34) (I 31 0) (I 35) (I 31 1) (I 33) (J 31 2) (I 7 12) (I 7 3) (I 15) (I 13 2) (I 14) (I 7 1) (I 18) (I 16 2) (I 17) (I 12) (I 7 9) (I 9) (I 10) (I 7 0) = some (k, oj, o0, o1, o2, o3, o4, o5, o6, o7, o8, o9, o10) := by rw [eNf, eHr, ePn, eWl, eDb, eFg, eGc, eGn, eH, eHc, eHn, eLt, eNl, eSt, eWy, eW]; exact hw
    have hs2 : f_X12_meet a1 a2 (I 80) (I 75 6) (I 75 53) (I 75 3) (I 75 7) (I 75 8) (I 79) (I 75 5) (I 94) (I 91) (I 75 2) (I 75 0) (I 93) (I 76) (I 77) (I 75 1) = some (b, s0, s1, s2, s3) := by rw [mDb, eDa, mF, mNl, mH, mW]; exact hs
    refine ok_L_meet_0_107_p (by decide) (zwp_of hw2 ?_)
    refine ⟨k, 7, 19, _, _, rfl, rfl, ?_⟩
    refine ok_X12_meet_75 (by decide) (zwp_of hs2 ?_)
    refine ⟨b, _, _, rfl, rfl, hthr.trans hk.symm, fun h => (hans (hk.symm.trans h)).trans (congrArg Int32.toInt64 hb.symm), ?_⟩
    exact ⟨Or.inl ⟨rfl, rfl⟩, P, hr, pn, wl, nx, na, nn, ns, sz, hP, hm, hN.fr hP hrw, hD, hRf, hNo, hS, hIm, hT, eT1, eT2, eF, eDa, eW, eH, eFg, eSt, eWy, eNs, eNl, eLt, eDb, eGc, eGn, eHc, eHn, eHr, ePn, eWl, eNf, eNx, eNa, eNn, mW, mH, mF, mNs, mNl, mDb, mNa, mNn⟩
  · replace hS : SeatR P ns (I 23) (I 78) := hS
    replace eW : I 19 0 = nI (qW P) := eW
    replace eH : I 19 1 = nI (qH P) := eH
    replace eFg : I 19 3 = nI (qF P) := eFg
    replace eSt : I 21 = qSt P := eSt
    replace eWy : I 22 = qWy P := eWy
    replace eNs : I 19 7 = nI ns := eNs
    replace eNl : I 19 9 = nI (qNl P) := eNl
    replace eLt : I 24 = qLt P := eLt
    replace eDb : I 19 12 = qDb P := eDb
    replace eGc : I 27 = qGc P := eGc
    replace eGn : I 25 2 = nI (qGn P) := eGn
    replace eHc : I 30 = qHc P := eHc
    replace eHn : I 28 2 = nI (qHn P) := eHn
    obtain ⟨⟨r0, r2⟩, hr1, h1⟩ := zwp_get (show zwp (f_X11_meet a1 a2 (I 54) (I 53 3) (I 56) (I 53 0) (I 57) (I 53 1) (I 55) (J 53 2) (I 52) (I 32) (nI (qF P)) (I 34) (nI hr) (I 35) (nI pn) (I 33) (lN wl) (qDb P) (nI (qF P)) (qGc P) (nI (qGn P)) (I 26) (nI (qH P)) (qHc P) (nI (qHn P)) (I 29) (qLt P) (nI (qNl P)) (qSt P) (qWy P) (nI (qW P))) _ from c_meet hP hN)
    obtain ⟨⟨k, oj, o0, o1, o2, o3, o4, o5, o6, o7, o8, o9, o10⟩, hw, hk, hans, ho⟩ := zwp_get (l_meet (m_ar := J 107) (Q := fun x => x = r2) (zwp_of hr1 ⟨h1, rfl⟩))
    obtain ⟨⟨b, s0, s1, s2, s3⟩, hs, hb, hthr, hrw⟩ := zwp_get (show zwp (f_X12_meet a1 a2 (I 80) (qDb P) (-1) (nI (qF P)) (I 75 7) (I 75 8) (I 79) (nI (qNl P)) (I 94) (I 91) (nI (qH P)) (I 75 0) (I 93) (I 76) (I 77) (nI (qW P))) _ from m_meet (fcell := I 54) (fsore := I 55) (fheld := I 56) hP hm hN)
    have hw2 : f_L_meet a1 a2 1 (J 107) (I 54) (I 53 3) (I 56) (I 53 0) (I 57) (I 53 1) (I 55) (J 53 2) (I 52) (I 32) (I 31 3) (I 34) (I 31 0) (I 35) (I 31 1) (I 33) (J 31 2) (I 19 12) (I 19 3) (I 27) (I 25 2) (I 26) (I 19 1) (I 30) (I 28 2) (I 29) (I 24) (I 19 9) (I 21) (I 22) (I 19 0) = some (k, oj, o0, o1, o2, o3, o4, o5, o6, o7, o8, o9, o10) := by rw [eNf, eHr, ePn, eWl, eDb, eFg, eGc, eGn, eH, eHc, eHn, eLt, eNl, eSt, eWy, eW]; exact hw
    have hs2 : f_X12_meet a1 a2 (I 80) (I 75 6) (I 75 53) (I 75 3) (I 75 7) (I 75 8) (I 79) (I 75 5) (I 94) (I 91) (I 75 2) (I 75 0) (I 93) (I 76) (I 77) (I 75 1) = some (b, s0, s1, s2, s3) := by rw [mDb, eDa, mF, mNl, mH, mW]; exact hs
    refine ok_L_meet_0_107_q (by decide) (zwp_of hw2 ?_)
    refine ⟨k, 19, 7, _, _, rfl, rfl, ?_⟩
    refine ok_X12_meet_75 (by decide) (zwp_of hs2 ?_)
    refine ⟨b, _, _, rfl, rfl, hthr.trans hk.symm, fun h => (hans (hk.symm.trans h)).trans (congrArg Int32.toInt64 hb.symm), ?_⟩
    exact ⟨Or.inr ⟨rfl, rfl⟩, P, hr, pn, wl, nx, na, nn, ns, sz, hP, hm, hN.fr hP hrw, hD, hRf, hNo, hS, hIm, hT, eT1, eT2, eF, eDa, eW, eH, eFg, eSt, eWy, eNs, eNl, eLt, eDb, eGc, eGn, eHc, eHn, eHr, ePn, eWl, eNf, eNx, eNa, eNn, mW, mH, mF, mNs, mNl, mDb, mNa, mNn⟩
theorem op_crowd {p q : Nat} {I : pI} {J : pJ} (H : Inv p q I J) (a1 a2 : Int32) : OpH 283 235 [.int a1, .int a2] p q I J := by
  obtain ⟨hpq, P, hr, pn, wl, nx, na, nn, ns, sz, hP, hm, hN, hD, hRf, hNo, hS, hIm, hT, eT1, eT2, eF, eDa, eW, eH, eFg, eSt, eWy, eNs, eNl, eLt, eDb, eGc, eGn, eHc, eHn, eHr, ePn, eWl, eNf, eNx, eNa, eNn, mW, mH, mF, mNs, mNl, mDb, mNa, mNn⟩ := H
  rcases hpq with ⟨rfl, rfl⟩ | ⟨rfl, rfl⟩
  · replace hS : SeatR P ns (I 11) (I 78) := hS
    replace eW : I 7 0 = nI (qW P) := eW
    replace eH : I 7 1 = nI (qH P) := eH
    replace eFg : I 7 3 = nI (qF P) := eFg
    replace eSt : I 9 = qSt P := eSt
    replace eWy : I 10 = qWy P := eWy
    replace eNs : I 7 7 = nI ns := eNs
    replace eNl : I 7 9 = nI (qNl P) := eNl
    replace eLt : I 12 = qLt P := eLt
    replace eDb : I 7 12 = qDb P := eDb
    replace eGc : I 15 = qGc P := eGc
    replace eGn : I 13 2 = nI (qGn P) := eGn
    replace eHc : I 18 = qHc P := eHc
    replace eHn : I 16 2 = nI (qHn P) := eHn
    obtain ⟨⟨r0, r2⟩, hr1, h1⟩ := zwp_get (show zwp (f_X11_crowd a1 a2 (I 54) (I 53 3) (I 56) (I 53 0) (I 57) (I 53 1) (I 55) (J 53 2) (I 52) (I 32) (nI (qF P)) (I 34) (nI hr) (I 35) (nI pn) (I 33) (lN wl) (qDb P) (nI (qF P)) (qGc P) (nI (qGn P)) (I 14) (nI (qH P)) (qHc P) (nI (qHn P)) (I 17) (qLt P) (nI (qNl P)) (qSt P) (qWy P) (nI (qW P))) _ from c_crowd hP hN)
    obtain ⟨⟨k, oj, o0, o1, o2, o3, o4, o5, o6, o7, o8, o9, o10⟩, hw, hk, hans, ho⟩ := zwp_get (l_crowd (m_ar := J 107) (Q := fun x => x = r2) (zwp_of hr1 ⟨h1, rfl⟩))
    obtain ⟨⟨b, s0, s1, s2, s3, s4⟩, hs, hb, hthr, hrw⟩ := zwp_get (show zwp (f_X12_crowd a1 a2 (I 80) (qDb P) (-1) (nI (qF P)) (I 75 7) (I 75 8) (I 79) (nI (qNl P)) (I 97) (I 94) (I 91) (nI (qH P)) (I 75 0) (I 93) (I 76) (I 77) (nI (qW P))) _ from m_crowd (fcell := I 54) (fsore := I 55) (fheld := I 56) hP hm hN)
    have hw2 : f_L_crowd a1 a2 1 (J 107) (I 54) (I 53 3) (I 56) (I 53 0) (I 57) (I 53 1) (I 55) (J 53 2) (I 52) (I 32) (I 31 3) (I 34) (I 31 0) (I 35) (I 31 1) (I 33) (J 31 2) (I 7 12) (I 7 3) (I 15) (I 13 2) (I 14) (I 7 1) (I 18) (I 16 2) (I 17) (I 12) (I 7 9) (I 9) (I 10) (I 7 0) = some (k, oj, o0, o1, o2, o3, o4, o5, o6, o7, o8, o9, o10) := by rw [eNf, eHr, ePn, eWl, eDb, eFg, eGc, eGn, eH, eHc, eHn, eLt, eNl, eSt, eWy, eW]; exact hw
    have hs2 : f_X12_crowd a1 a2 (I 80) (I 75 6) (I 75 53) (I 75 3) (I 75 7) (I 75 8) (I 79) (I 75 5) (I 97) (I 94) (I 91) (I 75 2) (I 75 0) (I 93) (I 76) (I 77) (I 75 1) = some (b, s0, s1, s2, s3, s4) := by rw [mDb, eDa, mF, mNl, mH, mW]; exact hs
    refine ok_L_crowd_0_107_p (by decide) (zwp_of hw2 ?_)
    refine ⟨k, 7, 19, _, _, rfl, rfl, ?_⟩
    refine ok_X12_crowd_75 (by decide) (zwp_of hs2 ?_)
    refine ⟨b, _, _, rfl, rfl, hthr.trans hk.symm, fun h => (hans (hk.symm.trans h)).trans (congrArg Int32.toInt64 hb.symm), ?_⟩
    exact ⟨Or.inl ⟨rfl, rfl⟩, P, hr, pn, wl, nx, na, nn, ns, sz, hP, hm, hN.fr hP hrw, hD, hRf, hNo, hS, hIm, hT, eT1, eT2, eF, eDa, eW, eH, eFg, eSt, eWy, eNs, eNl, eLt, eDb, eGc, eGn, eHc, eHn, eHr, ePn, eWl, eNf, eNx, eNa, eNn, mW, mH, mF, mNs, mNl, mDb, mNa, mNn⟩
  · replace hS : SeatR P ns (I 23) (I 78) := hS
    replace eW : I 19 0 = nI (qW P) := eW
    replace eH : I 19 1 = nI (qH P) := eH
    replace eFg : I 19 3 = nI (qF P) := eFg
    replace eSt : I 21 = qSt P := eSt
    replace eWy : I 22 = qWy P := eWy
    replace eNs : I 19 7 = nI ns := eNs
    replace eNl : I 19 9 = nI (qNl P) := eNl
    replace eLt : I 24 = qLt P := eLt
    replace eDb : I 19 12 = qDb P := eDb
    replace eGc : I 27 = qGc P := eGc
    replace eGn : I 25 2 = nI (qGn P) := eGn
    replace eHc : I 30 = qHc P := eHc
    replace eHn : I 28 2 = nI (qHn P) := eHn
    obtain ⟨⟨r0, r2⟩, hr1, h1⟩ := zwp_get (show zwp (f_X11_crowd a1 a2 (I 54) (I 53 3) (I 56) (I 53 0) (I 57) (I 53 1) (I 55) (J 53 2) (I 52) (I 32) (nI (qF P)) (I 34) (nI hr) (I 35) (nI pn) (I 33) (lN wl) (qDb P) (nI (qF P)) (qGc P) (nI (qGn P)) (I 26) (nI (qH P)) (qHc P) (nI (qHn P)) (I 29) (qLt P) (nI (qNl P)) (qSt P) (qWy P) (nI (qW P))) _ from c_crowd hP hN)
    obtain ⟨⟨k, oj, o0, o1, o2, o3, o4, o5, o6, o7, o8, o9, o10⟩, hw, hk, hans, ho⟩ := zwp_get (l_crowd (m_ar := J 107) (Q := fun x => x = r2) (zwp_of hr1 ⟨h1, rfl⟩))
    obtain ⟨⟨b, s0, s1, s2, s3, s4⟩, hs, hb, hthr, hrw⟩ := zwp_get (show zwp (f_X12_crowd a1 a2 (I 80) (qDb P) (-1) (nI (qF P)) (I 75 7) (I 75 8) (I 79) (nI (qNl P)) (I 97) (I 94) (I 91) (nI (qH P)) (I 75 0) (I 93) (I 76) (I 77) (nI (qW P))) _ from m_crowd (fcell := I 54) (fsore := I 55) (fheld := I 56) hP hm hN)
    have hw2 : f_L_crowd a1 a2 1 (J 107) (I 54) (I 53 3) (I 56) (I 53 0) (I 57) (I 53 1) (I 55) (J 53 2) (I 52) (I 32) (I 31 3) (I 34) (I 31 0) (I 35) (I 31 1) (I 33) (J 31 2) (I 19 12) (I 19 3) (I 27) (I 25 2) (I 26) (I 19 1) (I 30) (I 28 2) (I 29) (I 24) (I 19 9) (I 21) (I 22) (I 19 0) = some (k, oj, o0, o1, o2, o3, o4, o5, o6, o7, o8, o9, o10) := by rw [eNf, eHr, ePn, eWl, eDb, eFg, eGc, eGn, eH, eHc, eHn, eLt, eNl, eSt, eWy, eW]; exact hw
    have hs2 : f_X12_crowd a1 a2 (I 80) (I 75 6) (I 75 53) (I 75 3) (I 75 7) (I 75 8) (I 79) (I 75 5) (I 97) (I 94) (I 91) (I 75 2) (I 75 0) (I 93) (I 76) (I 77) (I 75 1) = some (b, s0, s1, s2, s3, s4) := by rw [mDb, eDa, mF, mNl, mH, mW]; exact hs
    refine ok_L_crowd_0_107_q (by decide) (zwp_of hw2 ?_)
    refine ⟨k, 19, 7, _, _, rfl, rfl, ?_⟩
    refine ok_X12_crowd_75 (by decide) (zwp_of hs2 ?_)
    refine ⟨b, _, _, rfl, rfl, hthr.trans hk.symm, fun h => (hans (hk.symm.trans h)).trans (congrArg Int32.toInt64 hb.symm), ?_⟩
    exact ⟨Or.inr ⟨rfl, rfl⟩, P, hr, pn, wl, nx, na, nn, ns, sz, hP, hm, hN.fr hP hrw, hD, hRf, hNo, hS, hIm, hT, eT1, eT2, eF, eDa, eW, eH, eFg, eSt, eWy, eNs, eNl, eLt, eDb, eGc, eGn, eHc, eHn, eHr, ePn, eWl, eNf, eNx, eNa, eNn, mW, mH, mF, mNs, mNl, mDb, mNa, mNn⟩
theorem op_spread {p q : Nat} {I : pI} {J : pJ} (H : Inv p q I J) (a1 a2 : Int32) : OpH 284 238 [.int a1, .int a2] p q I J := by
  obtain ⟨hpq, P, hr, pn, wl, nx, na, nn, ns, sz, hP, hm, hN, hD, hRf, hNo, hS, hIm, hT, eT1, eT2, eF, eDa, eW, eH, eFg, eSt, eWy, eNs, eNl, eLt, eDb, eGc, eGn, eHc, eHn, eHr, ePn, eWl, eNf, eNx, eNa, eNn, mW, mH, mF, mNs, mNl, mDb, mNa, mNn⟩ := H
  rcases hpq with ⟨rfl, rfl⟩ | ⟨rfl, rfl⟩
  · replace hS : SeatR P ns (I 11) (I 78) := hS
    replace eW : I 7 0 = nI (qW P) := eW
    replace eH : I 7 1 = nI (qH P) := eH
    replace eFg : I 7 3 = nI (qF P) := eFg
    replace eSt : I 9 = qSt P := eSt
    replace eWy : I 10 = qWy P := eWy
    replace eNs : I 7 7 = nI ns := eNs
    replace eNl : I 7 9 = nI (qNl P) := eNl
    replace eLt : I 12 = qLt P := eLt
    replace eDb : I 7 12 = qDb P := eDb
    replace eGc : I 15 = qGc P := eGc
    replace eGn : I 13 2 = nI (qGn P) := eGn
    replace eHc : I 18 = qHc P := eHc
    replace eHn : I 16 2 = nI (qHn P) := eHn
    obtain ⟨⟨r0, r2⟩, hr1, h1⟩ := zwp_get (show zwp (f_X11_spread a1 a2 (I 54) (I 53 3) (I 56) (I 53 0) (I 57) (I 53 1) (I 55) (J 53 2) (I 52) (I 32) (nI (qF P)) (I 34) (nI hr) (I 35) (nI pn) (I 33) (lN wl) (qDb P) (nI (qF P)) (qGc P) (nI (qGn P)) (I 14) (nI (qH P)) (qHc P) (nI (qHn P)) (I 17) (qLt P) (nI (qNl P)) (qSt P) (qWy P) (nI (qW P))) _ from c_spread hP hN)
    obtain ⟨⟨k, oj, o0, o1, o2, o3, o4, o5, o6, o7, o8, o9, o10⟩, hw, hk, hans, ho⟩ := zwp_get (l_spread (m_ar := J 107) (Q := fun x => x = r2) (zwp_of hr1 ⟨h1, rfl⟩))
    obtain ⟨⟨b, s0, s1, s2, s3, s4⟩, hs, hb, hthr, hrw⟩ := zwp_get (show zwp (f_X12_spread a1 a2 (I 80) (qDb P) (-1) (nI (qF P)) (I 75 7) (I 75 8) (I 79) (nI (qNl P)) (I 97) (I 94) (I 91) (nI (qH P)) (I 75 0) (I 93) (I 76) (I 77) (nI (qW P))) _ from m_spread (fcell := I 54) (fsore := I 55) (fheld := I 56) hP hm hN)
    have hw2 : f_L_spread a1 a2 1 (J 107) (I 54) (I 53 3) (I 56) (I 53 0) (I 57) (I 53 1) (I 55) (J 53 2) (I 52) (I 32) (I 31 3) (I 34) (I 31 0) (I 35) (I 31 1) (I 33) (J 31 2) (I 7 12) (I 7 3) (I 15) (I 13 2) (I 14) (I 7 1) (I 18) (I 16 2) (I 17) (I 12) (I 7 9) (I 9) (I 10) (I 7 0) = some (k, oj, o0, o1, o2, o3, o4, o5, o6, o7, o8, o9, o10) := by rw [eNf, eHr, ePn, eWl, eDb, eFg, eGc, eGn, eH, eHc, eHn, eLt, eNl, eSt, eWy, eW]; exact hw
    have hs2 : f_X12_spread a1 a2 (I 80) (I 75 6) (I 75 53) (I 75 3) (I 75 7) (I 75 8) (I 79) (I 75 5) (I 97) (I 94) (I 91) (I 75 2) (I 75 0) (I 93) (I 76) (I 77) (I 75 1) = some (b, s0, s1, s2, s3, s4) := by rw [mDb, eDa, mF, mNl, mH, mW]; exact hs
    refine ok_L_spread_0_107_p (by decide) (zwp_of hw2 ?_)
    refine ⟨k, 7, 19, _, _, rfl, rfl, ?_⟩
    refine ok_X12_spread_75 (by decide) (zwp_of hs2 ?_)
    refine ⟨b, _, _, rfl, rfl, hthr.trans hk.symm, fun h => (hans (hk.symm.trans h)).trans (congrArg Int32.toInt64 hb.symm), ?_⟩
    exact ⟨Or.inl ⟨rfl, rfl⟩, P, hr, pn, wl, nx, na, nn, ns, sz, hP, hm, hN.fr hP hrw, hD, hRf, hNo, hS, hIm, hT, eT1, eT2, eF, eDa, eW, eH, eFg, eSt, eWy, eNs, eNl, eLt, eDb, eGc, eGn, eHc, eHn, eHr, ePn, eWl, eNf, eNx, eNa, eNn, mW, mH, mF, mNs, mNl, mDb, mNa, mNn⟩
  · replace hS : SeatR P ns (I 23) (I 78) := hS
    replace eW : I 19 0 = nI (qW P) := eW
    replace eH : I 19 1 = nI (qH P) := eH
    replace eFg : I 19 3 = nI (qF P) := eFg
    replace eSt : I 21 = qSt P := eSt
    replace eWy : I 22 = qWy P := eWy
    replace eNs : I 19 7 = nI ns := eNs
    replace eNl : I 19 9 = nI (qNl P) := eNl
    replace eLt : I 24 = qLt P := eLt
    replace eDb : I 19 12 = qDb P := eDb
    replace eGc : I 27 = qGc P := eGc
    replace eGn : I 25 2 = nI (qGn P) := eGn
    replace eHc : I 30 = qHc P := eHc
    replace eHn : I 28 2 = nI (qHn P) := eHn
    obtain ⟨⟨r0, r2⟩, hr1, h1⟩ := zwp_get (show zwp (f_X11_spread a1 a2 (I 54) (I 53 3) (I 56) (I 53 0) (I 57) (I 53 1) (I 55) (J 53 2) (I 52) (I 32) (nI (qF P)) (I 34) (nI hr) (I 35) (nI pn) (I 33) (lN wl) (qDb P) (nI (qF P)) (qGc P) (nI (qGn P)) (I 26) (nI (qH P)) (qHc P) (nI (qHn P)) (I 29) (qLt P) (nI (qNl P)) (qSt P) (qWy P) (nI (qW P))) _ from c_spread hP hN)
    obtain ⟨⟨k, oj, o0, o1, o2, o3, o4, o5, o6, o7, o8, o9, o10⟩, hw, hk, hans, ho⟩ := zwp_get (l_spread (m_ar := J 107) (Q := fun x => x = r2) (zwp_of hr1 ⟨h1, rfl⟩))
    obtain ⟨⟨b, s0, s1, s2, s3, s4⟩, hs, hb, hthr, hrw⟩ := zwp_get (show zwp (f_X12_spread a1 a2 (I 80) (qDb P) (-1) (nI (qF P)) (I 75 7) (I 75 8) (I 79) (nI (qNl P)) (I 97) (I 94) (I 91) (nI (qH P)) (I 75 0) (I 93) (I 76) (I 77) (nI (qW P))) _ from m_spread (fcell := I 54) (fsore := I 55) (fheld := I 56) hP hm hN)
    have hw2 : f_L_spread a1 a2 1 (J 107) (I 54) (I 53 3) (I 56) (I 53 0) (I 57) (I 53 1) (I 55) (J 53 2) (I 52) (I 32) (I 31 3) (I 34) (I 31 0) (I 35) (I 31 1) (I 33) (J 31 2) (I 19 12) (I 19 3) (I 27) (I 25 2) (I 26) (I 19 1) (I 30) (I 28 2) (I 29) (I 24) (I 19 9) (I 21) (I 22) (I 19 0) = some (k, oj, o0, o1, o2, o3, o4, o5, o6, o7, o8, o9, o10) := by rw [eNf, eHr, ePn, eWl, eDb, eFg, eGc, eGn, eH, eHc, eHn, eLt, eNl, eSt, eWy, eW]; exact hw
    have hs2 : f_X12_spread a1 a2 (I 80) (I 75 6) (I 75 53) (I 75 3) (I 75 7) (I 75 8) (I 79) (I 75 5) (I 97) (I 94) (I 91) (I 75 2) (I 75 0) (I 93) (I 76) (I 77) (I 75 1) = some (b, s0, s1, s2, s3, s4) := by rw [mDb, eDa, mF, mNl, mH, mW]; exact hs
    refine ok_L_spread_0_107_q (by decide) (zwp_of hw2 ?_)
    refine ⟨k, 19, 7, _, _, rfl, rfl, ?_⟩
    refine ok_X12_spread_75 (by decide) (zwp_of hs2 ?_)
    refine ⟨b, _, _, rfl, rfl, hthr.trans hk.symm, fun h => (hans (hk.symm.trans h)).trans (congrArg Int32.toInt64 hb.symm), ?_⟩
    exact ⟨Or.inr ⟨rfl, rfl⟩, P, hr, pn, wl, nx, na, nn, ns, sz, hP, hm, hN.fr hP hrw, hD, hRf, hNo, hS, hIm, hT, eT1, eT2, eF, eDa, eW, eH, eFg, eSt, eWy, eNs, eNl, eLt, eDb, eGc, eGn, eHc, eHn, eHr, ePn, eWl, eNf, eNx, eNa, eNn, mW, mH, mF, mNs, mNl, mDb, mNa, mNn⟩
theorem op_way {p q : Nat} {I : pI} {J : pJ} (H : Inv p q I J) (a1 a2 a3 : Int32) : OpH 285 243 [.int a1, .int a2, .int a3] p q I J := by
  obtain ⟨hpq, P, hr, pn, wl, nx, na, nn, ns, sz, hP, hm, hN, hD, hRf, hNo, hS, hIm, hT, eT1, eT2, eF, eDa, eW, eH, eFg, eSt, eWy, eNs, eNl, eLt, eDb, eGc, eGn, eHc, eHn, eHr, ePn, eWl, eNf, eNx, eNa, eNn, mW, mH, mF, mNs, mNl, mDb, mNa, mNn⟩ := H
  rcases hpq with ⟨rfl, rfl⟩ | ⟨rfl, rfl⟩
  · replace hS : SeatR P ns (I 11) (I 78) := hS
    replace eW : I 7 0 = nI (qW P) := eW
    replace eH : I 7 1 = nI (qH P) := eH
    replace eFg : I 7 3 = nI (qF P) := eFg
    replace eSt : I 9 = qSt P := eSt
    replace eWy : I 10 = qWy P := eWy
    replace eNs : I 7 7 = nI ns := eNs
    replace eNl : I 7 9 = nI (qNl P) := eNl
    replace eLt : I 12 = qLt P := eLt
    replace eDb : I 7 12 = qDb P := eDb
    replace eGc : I 15 = qGc P := eGc
    replace eGn : I 13 2 = nI (qGn P) := eGn
    replace eHc : I 18 = qHc P := eHc
    replace eHn : I 16 2 = nI (qHn P) := eHn
    obtain ⟨⟨r0, r2⟩, hr1, h1⟩ := zwp_get (show zwp (f_X11_way a1 a2 a3 (lN wl) (nI (qH P)) (nI (qW P)) (I 59) (I 60)) _ from c_way hP hN)
    obtain ⟨⟨k, oj, o0, o1⟩, hw, hk, hans, ho⟩ := zwp_get (l_way (m_ar := J 107) (Q := fun x => x = r2) (zwp_of hr1 ⟨h1, rfl⟩))
    obtain ⟨⟨b, s0, s1, s2⟩, hs, hb, hthr⟩ := zwp_get (show zwp (f_X12_way a1 a2 a3 (I 95) (I 96) (I 91) (nI (qH P)) (I 75 0) (nI (qW P))) _ from m_way hP hN)
    have hw2 : f_L_way a1 a2 a3 1 (J 107) (J 31 2) (I 7 1) (I 7 0) (I 59) (I 60) = some (k, oj, o0, o1) := by rw [eWl, eH, eW]; exact hw
    have hs2 : f_X12_way a1 a2 a3 (I 95) (I 96) (I 91) (I 75 2) (I 75 0) (I 75 1) = some (b, s0, s1, s2) := by rw [mH, mW]; exact hs
    refine ok_L_way_0_107_p (by decide) (zwp_of hw2 ?_)
    refine ⟨k, 7, 19, _, _, rfl, rfl, ?_⟩
    refine ok_X12_way_75 (by decide) (zwp_of hs2 ?_)
    refine ⟨b, _, _, rfl, rfl, hthr.trans hk.symm, fun h => (hans (hk.symm.trans h)).trans (congrArg Int32.toInt64 hb.symm), ?_⟩
    exact ⟨Or.inl ⟨rfl, rfl⟩, P, hr, pn, wl, nx, na, nn, ns, sz, hP, hm, hN, hD, hRf, hNo, hS, hIm, hT, eT1, eT2, eF, eDa, eW, eH, eFg, eSt, eWy, eNs, eNl, eLt, eDb, eGc, eGn, eHc, eHn, eHr, ePn, eWl, eNf, eNx, eNa, eNn, mW, mH, mF, mNs, mNl, mDb, mNa, mNn⟩
  · replace hS : SeatR P ns (I 23) (I 78) := hS
    replace eW : I 19 0 = nI (qW P) := eW
    replace eH : I 19 1 = nI (qH P) := eH
    replace eFg : I 19 3 = nI (qF P) := eFg
    replace eSt : I 21 = qSt P := eSt
    replace eWy : I 22 = qWy P := eWy
    replace eNs : I 19 7 = nI ns := eNs
    replace eNl : I 19 9 = nI (qNl P) := eNl
    replace eLt : I 24 = qLt P := eLt
    replace eDb : I 19 12 = qDb P := eDb
    replace eGc : I 27 = qGc P := eGc
    replace eGn : I 25 2 = nI (qGn P) := eGn
    replace eHc : I 30 = qHc P := eHc
    replace eHn : I 28 2 = nI (qHn P) := eHn
    obtain ⟨⟨r0, r2⟩, hr1, h1⟩ := zwp_get (show zwp (f_X11_way a1 a2 a3 (lN wl) (nI (qH P)) (nI (qW P)) (I 59) (I 60)) _ from c_way hP hN)
    obtain ⟨⟨k, oj, o0, o1⟩, hw, hk, hans, ho⟩ := zwp_get (l_way (m_ar := J 107) (Q := fun x => x = r2) (zwp_of hr1 ⟨h1, rfl⟩))
    obtain ⟨⟨b, s0, s1, s2⟩, hs, hb, hthr⟩ := zwp_get (show zwp (f_X12_way a1 a2 a3 (I 95) (I 96) (I 91) (nI (qH P)) (I 75 0) (nI (qW P))) _ from m_way hP hN)
    have hw2 : f_L_way a1 a2 a3 1 (J 107) (J 31 2) (I 19 1) (I 19 0) (I 59) (I 60) = some (k, oj, o0, o1) := by rw [eWl, eH, eW]; exact hw
    have hs2 : f_X12_way a1 a2 a3 (I 95) (I 96) (I 91) (I 75 2) (I 75 0) (I 75 1) = some (b, s0, s1, s2) := by rw [mH, mW]; exact hs
    refine ok_L_way_0_107_q (by decide) (zwp_of hw2 ?_)
    refine ⟨k, 19, 7, _, _, rfl, rfl, ?_⟩
    refine ok_X12_way_75 (by decide) (zwp_of hs2 ?_)
    refine ⟨b, _, _, rfl, rfl, hthr.trans hk.symm, fun h => (hans (hk.symm.trans h)).trans (congrArg Int32.toInt64 hb.symm), ?_⟩
    exact ⟨Or.inr ⟨rfl, rfl⟩, P, hr, pn, wl, nx, na, nn, ns, sz, hP, hm, hN, hD, hRf, hNo, hS, hIm, hT, eT1, eT2, eF, eDa, eW, eH, eFg, eSt, eWy, eNs, eNl, eLt, eDb, eGc, eGn, eHc, eHn, eHr, ePn, eWl, eNf, eNx, eNa, eNn, mW, mH, mF, mNs, mNl, mDb, mNa, mNn⟩
theorem op_toStop {p q : Nat} {I : pI} {J : pJ} (H : Inv p q I J) (a1 a2 a3 : Int32) : OpH 286 244 [.int a1, .int a2, .int a3] p q I J := by
  obtain ⟨hpq, P, hr, pn, wl, nx, na, nn, ns, sz, hP, hm, hN, hD, hRf, hNo, hS, hIm, hT, eT1, eT2, eF, eDa, eW, eH, eFg, eSt, eWy, eNs, eNl, eLt, eDb, eGc, eGn, eHc, eHn, eHr, ePn, eWl, eNf, eNx, eNa, eNn, mW, mH, mF, mNs, mNl, mDb, mNa, mNn⟩ := H
  rcases hpq with ⟨rfl, rfl⟩ | ⟨rfl, rfl⟩
  · replace hS : SeatR P ns (I 11) (I 78) := hS
    replace eW : I 7 0 = nI (qW P) := eW
    replace eH : I 7 1 = nI (qH P) := eH
    replace eFg : I 7 3 = nI (qF P) := eFg
    replace eSt : I 9 = qSt P := eSt
    replace eWy : I 10 = qWy P := eWy
    replace eNs : I 7 7 = nI ns := eNs
    replace eNl : I 7 9 = nI (qNl P) := eNl
    replace eLt : I 12 = qLt P := eLt
    replace eDb : I 7 12 = qDb P := eDb
    replace eGc : I 15 = qGc P := eGc
    replace eGn : I 13 2 = nI (qGn P) := eGn
    replace eHc : I 18 = qHc P := eHc
    replace eHn : I 16 2 = nI (qHn P) := eHn
    obtain ⟨⟨r0, r2⟩, hr1, h1⟩ := zwp_get (show zwp (f_X11_toStop a1 a2 a3 (I 54) (I 53 3) (I 56) (I 53 0) (I 57) (I 53 1) (I 55) (J 53 2) (I 52) (I 32) (nI (qF P)) (I 34) (nI hr) (I 35) (nI pn) (I 33) (lN wl) (qDb P) (nI (qF P)) (qGc P) (nI (qGn P)) (I 14) (nI (qH P)) (qHc P) (nI (qHn P)) (I 17) (qLt P) (nI (qNl P)) (qSt P) (qWy P) (nI (qW P))) _ from c_toStop hP hN)
    obtain ⟨⟨k, oj, o0, o1, o2, o3, o4, o5, o6, o7, o8, o9, o10⟩, hw, hk, hans, ho⟩ := zwp_get (l_toStop (m_ar := J 107) (Q := fun x => x = r2) (zwp_of hr1 ⟨h1, rfl⟩))
    obtain ⟨⟨b, s0, s1, s2, s3⟩, hs, hb, hthr, hrw⟩ := zwp_get (show zwp (f_X12_toStop a1 a2 a3 (I 80) (qDb P) (-1) (nI (qF P)) (I 75 7) (I 75 8) (I 79) (nI (qNl P)) (I 94) (I 91) (nI (qH P)) (I 75 0) (I 93) (I 76) (I 77) (nI (qW P))) _ from m_toStop (fcell := I 54) (fsore := I 55) (fheld := I 56) hP hm hN)
    have hw2 : f_L_toStop a1 a2 a3 1 (J 107) (I 54) (I 53 3) (I 56) (I 53 0) (I 57) (I 53 1) (I 55) (J 53 2) (I 52) (I 32) (I 31 3) (I 34) (I 31 0) (I 35) (I 31 1) (I 33) (J 31 2) (I 7 12) (I 7 3) (I 15) (I 13 2) (I 14) (I 7 1) (I 18) (I 16 2) (I 17) (I 12) (I 7 9) (I 9) (I 10) (I 7 0) = some (k, oj, o0, o1, o2, o3, o4, o5, o6, o7, o8, o9, o10) := by rw [eNf, eHr, ePn, eWl, eDb, eFg, eGc, eGn, eH, eHc, eHn, eLt, eNl, eSt, eWy, eW]; exact hw
    have hs2 : f_X12_toStop a1 a2 a3 (I 80) (I 75 6) (I 75 53) (I 75 3) (I 75 7) (I 75 8) (I 79) (I 75 5) (I 94) (I 91) (I 75 2) (I 75 0) (I 93) (I 76) (I 77) (I 75 1) = some (b, s0, s1, s2, s3) := by rw [mDb, eDa, mF, mNl, mH, mW]; exact hs
    refine ok_L_toStop_0_107_p (by decide) (zwp_of hw2 ?_)
    refine ⟨k, 7, 19, _, _, rfl, rfl, ?_⟩
    refine ok_X12_toStop_75 (by decide) (zwp_of hs2 ?_)
    refine ⟨b, _, _, rfl, rfl, hthr.trans hk.symm, fun h => (hans (hk.symm.trans h)).trans (congrArg Int32.toInt64 hb.symm), ?_⟩
    exact ⟨Or.inl ⟨rfl, rfl⟩, P, hr, pn, wl, nx, na, nn, ns, sz, hP, hm, hN.fr hP hrw, hD, hRf, hNo, hS, hIm, hT, eT1, eT2, eF, eDa, eW, eH, eFg, eSt, eWy, eNs, eNl, eLt, eDb, eGc, eGn, eHc, eHn, eHr, ePn, eWl, eNf, eNx, eNa, eNn, mW, mH, mF, mNs, mNl, mDb, mNa, mNn⟩
  · replace hS : SeatR P ns (I 23) (I 78) := hS
    replace eW : I 19 0 = nI (qW P) := eW
    replace eH : I 19 1 = nI (qH P) := eH
    replace eFg : I 19 3 = nI (qF P) := eFg
    replace eSt : I 21 = qSt P := eSt
    replace eWy : I 22 = qWy P := eWy
    replace eNs : I 19 7 = nI ns := eNs
    replace eNl : I 19 9 = nI (qNl P) := eNl
    replace eLt : I 24 = qLt P := eLt
    replace eDb : I 19 12 = qDb P := eDb
    replace eGc : I 27 = qGc P := eGc
    replace eGn : I 25 2 = nI (qGn P) := eGn
    replace eHc : I 30 = qHc P := eHc
    replace eHn : I 28 2 = nI (qHn P) := eHn
    obtain ⟨⟨r0, r2⟩, hr1, h1⟩ := zwp_get (show zwp (f_X11_toStop a1 a2 a3 (I 54) (I 53 3) (I 56) (I 53 0) (I 57) (I 53 1) (I 55) (J 53 2) (I 52) (I 32) (nI (qF P)) (I 34) (nI hr) (I 35) (nI pn) (I 33) (lN wl) (qDb P) (nI (qF P)) (qGc P) (nI (qGn P)) (I 26) (nI (qH P)) (qHc P) (nI (qHn P)) (I 29) (qLt P) (nI (qNl P)) (qSt P) (qWy P) (nI (qW P))) _ from c_toStop hP hN)
    obtain ⟨⟨k, oj, o0, o1, o2, o3, o4, o5, o6, o7, o8, o9, o10⟩, hw, hk, hans, ho⟩ := zwp_get (l_toStop (m_ar := J 107) (Q := fun x => x = r2) (zwp_of hr1 ⟨h1, rfl⟩))
    obtain ⟨⟨b, s0, s1, s2, s3⟩, hs, hb, hthr, hrw⟩ := zwp_get (show zwp (f_X12_toStop a1 a2 a3 (I 80) (qDb P) (-1) (nI (qF P)) (I 75 7) (I 75 8) (I 79) (nI (qNl P)) (I 94) (I 91) (nI (qH P)) (I 75 0) (I 93) (I 76) (I 77) (nI (qW P))) _ from m_toStop (fcell := I 54) (fsore := I 55) (fheld := I 56) hP hm hN)
    have hw2 : f_L_toStop a1 a2 a3 1 (J 107) (I 54) (I 53 3) (I 56) (I 53 0) (I 57) (I 53 1) (I 55) (J 53 2) (I 52) (I 32) (I 31 3) (I 34) (I 31 0) (I 35) (I 31 1) (I 33) (J 31 2) (I 19 12) (I 19 3) (I 27) (I 25 2) (I 26) (I 19 1) (I 30) (I 28 2) (I 29) (I 24) (I 19 9) (I 21) (I 22) (I 19 0) = some (k, oj, o0, o1, o2, o3, o4, o5, o6, o7, o8, o9, o10) := by rw [eNf, eHr, ePn, eWl, eDb, eFg, eGc, eGn, eH, eHc, eHn, eLt, eNl, eSt, eWy, eW]; exact hw
    have hs2 : f_X12_toStop a1 a2 a3 (I 80) (I 75 6) (I 75 53) (I 75 3) (I 75 7) (I 75 8) (I 79) (I 75 5) (I 94) (I 91) (I 75 2) (I 75 0) (I 93) (I 76) (I 77) (I 75 1) = some (b, s0, s1, s2, s3) := by rw [mDb, eDa, mF, mNl, mH, mW]; exact hs
    refine ok_L_toStop_0_107_q (by decide) (zwp_of hw2 ?_)
    refine ⟨k, 19, 7, _, _, rfl, rfl, ?_⟩
    refine ok_X12_toStop_75 (by decide) (zwp_of hs2 ?_)
    refine ⟨b, _, _, rfl, rfl, hthr.trans hk.symm, fun h => (hans (hk.symm.trans h)).trans (congrArg Int32.toInt64 hb.symm), ?_⟩
    exact ⟨Or.inr ⟨rfl, rfl⟩, P, hr, pn, wl, nx, na, nn, ns, sz, hP, hm, hN.fr hP hrw, hD, hRf, hNo, hS, hIm, hT, eT1, eT2, eF, eDa, eW, eH, eFg, eSt, eWy, eNs, eNl, eLt, eDb, eGc, eGn, eHc, eHn, eHr, ePn, eWl, eNf, eNx, eNa, eNn, mW, mH, mF, mNs, mNl, mDb, mNa, mNn⟩
theorem op_toThin {p q : Nat} {I : pI} {J : pJ} (H : Inv p q I J) (a1 : Int32) : OpH 287 245 [.int a1] p q I J := by
  obtain ⟨hpq, P, hr, pn, wl, nx, na, nn, ns, sz, hP, hm, hN, hD, hRf, hNo, hS, hIm, hT, eT1, eT2, eF, eDa, eW, eH, eFg, eSt, eWy, eNs, eNl, eLt, eDb, eGc, eGn, eHc, eHn, eHr, ePn, eWl, eNf, eNx, eNa, eNn, mW, mH, mF, mNs, mNl, mDb, mNa, mNn⟩ := H
  rcases hpq with ⟨rfl, rfl⟩ | ⟨rfl, rfl⟩
  · replace hS : SeatR P ns (I 11) (I 78) := hS
    replace eW : I 7 0 = nI (qW P) := eW
    replace eH : I 7 1 = nI (qH P) := eH
    replace eFg : I 7 3 = nI (qF P) := eFg
    replace eSt : I 9 = qSt P := eSt
    replace eWy : I 10 = qWy P := eWy
    replace eNs : I 7 7 = nI ns := eNs
    replace eNl : I 7 9 = nI (qNl P) := eNl
    replace eLt : I 12 = qLt P := eLt
    replace eDb : I 7 12 = qDb P := eDb
    replace eGc : I 15 = qGc P := eGc
    replace eGn : I 13 2 = nI (qGn P) := eGn
    replace eHc : I 18 = qHc P := eHc
    replace eHn : I 16 2 = nI (qHn P) := eHn
    obtain ⟨⟨r0, r2⟩, hr1, h1⟩ := zwp_get (show zwp (f_X11_toThin a1 (I 54) (I 53 3) (I 56) (I 53 0) (I 57) (I 53 1) (I 55) (J 53 2) (I 73) (I 52) (I 32) (nI (qF P)) (I 34) (nI hr) (I 35) (nI pn) (I 33) (lN wl) (qDb P) (nI (qF P)) (qGc P) (nI (qGn P)) (I 14) (nI (qH P)) (qHc P) (nI (qHn P)) (I 17) (qLt P) (nI (qNl P)) (qSt P) (qWy P) (nI (qW P))) _ from c_toThin hP hN)
    obtain ⟨⟨k, oj, o0, o1, o2, o3, o4, o5, o6, o7, o8, o9, o10, o11⟩, hw, hk, hans, ho⟩ := zwp_get (l_toThin (m_ar := J 107) (Q := fun x => x = r2) (zwp_of hr1 ⟨h1, rfl⟩))
    obtain ⟨⟨b, s0, s1, s2, s3, s4⟩, hs, hb, hthr, hrw⟩ := zwp_get (show zwp (f_X12_toThin a1 (I 80) (qDb P) (-1) (nI (qF P)) (I 75 7) (I 75 8) (I 79) (nI (qNl P)) (I 98) (I 94) (I 91) (nI (qH P)) (I 75 0) (I 93) (I 76) (I 77) (nI (qW P))) _ from m_toThin (fcell := I 54) (fsore := I 55) (fheld := I 56) hP hm hN)
    have hw2 : f_L_toThin a1 1 (J 107) (I 54) (I 53 3) (I 56) (I 53 0) (I 57) (I 53 1) (I 55) (J 53 2) (I 73) (I 52) (I 32) (I 31 3) (I 34) (I 31 0) (I 35) (I 31 1) (I 33) (J 31 2) (I 7 12) (I 7 3) (I 15) (I 13 2) (I 14) (I 7 1) (I 18) (I 16 2) (I 17) (I 12) (I 7 9) (I 9) (I 10) (I 7 0) = some (k, oj, o0, o1, o2, o3, o4, o5, o6, o7, o8, o9, o10, o11) := by rw [eNf, eHr, ePn, eWl, eDb, eFg, eGc, eGn, eH, eHc, eHn, eLt, eNl, eSt, eWy, eW]; exact hw
    have hs2 : f_X12_toThin a1 (I 80) (I 75 6) (I 75 53) (I 75 3) (I 75 7) (I 75 8) (I 79) (I 75 5) (I 98) (I 94) (I 91) (I 75 2) (I 75 0) (I 93) (I 76) (I 77) (I 75 1) = some (b, s0, s1, s2, s3, s4) := by rw [mDb, eDa, mF, mNl, mH, mW]; exact hs
    refine ok_L_toThin_0_107_p (by decide) (zwp_of hw2 ?_)
    refine ⟨k, 7, 19, _, _, rfl, rfl, ?_⟩
    refine ok_X12_toThin_75 (by decide) (zwp_of hs2 ?_)
    refine ⟨b, _, _, rfl, rfl, hthr.trans hk.symm, fun h => (hans (hk.symm.trans h)).trans (congrArg Int32.toInt64 hb.symm), ?_⟩
    exact ⟨Or.inl ⟨rfl, rfl⟩, P, hr, pn, wl, nx, na, nn, ns, sz, hP, hm, hN.fr hP hrw, hD, hRf, hNo, hS, hIm, hT, eT1, eT2, eF, eDa, eW, eH, eFg, eSt, eWy, eNs, eNl, eLt, eDb, eGc, eGn, eHc, eHn, eHr, ePn, eWl, eNf, eNx, eNa, eNn, mW, mH, mF, mNs, mNl, mDb, mNa, mNn⟩
  · replace hS : SeatR P ns (I 23) (I 78) := hS
    replace eW : I 19 0 = nI (qW P) := eW
    replace eH : I 19 1 = nI (qH P) := eH
    replace eFg : I 19 3 = nI (qF P) := eFg
    replace eSt : I 21 = qSt P := eSt
    replace eWy : I 22 = qWy P := eWy
    replace eNs : I 19 7 = nI ns := eNs
    replace eNl : I 19 9 = nI (qNl P) := eNl
    replace eLt : I 24 = qLt P := eLt
    replace eDb : I 19 12 = qDb P := eDb
    replace eGc : I 27 = qGc P := eGc
    replace eGn : I 25 2 = nI (qGn P) := eGn
    replace eHc : I 30 = qHc P := eHc
    replace eHn : I 28 2 = nI (qHn P) := eHn
    obtain ⟨⟨r0, r2⟩, hr1, h1⟩ := zwp_get (show zwp (f_X11_toThin a1 (I 54) (I 53 3) (I 56) (I 53 0) (I 57) (I 53 1) (I 55) (J 53 2) (I 73) (I 52) (I 32) (nI (qF P)) (I 34) (nI hr) (I 35) (nI pn) (I 33) (lN wl) (qDb P) (nI (qF P)) (qGc P) (nI (qGn P)) (I 26) (nI (qH P)) (qHc P) (nI (qHn P)) (I 29) (qLt P) (nI (qNl P)) (qSt P) (qWy P) (nI (qW P))) _ from c_toThin hP hN)
    obtain ⟨⟨k, oj, o0, o1, o2, o3, o4, o5, o6, o7, o8, o9, o10, o11⟩, hw, hk, hans, ho⟩ := zwp_get (l_toThin (m_ar := J 107) (Q := fun x => x = r2) (zwp_of hr1 ⟨h1, rfl⟩))
    obtain ⟨⟨b, s0, s1, s2, s3, s4⟩, hs, hb, hthr, hrw⟩ := zwp_get (show zwp (f_X12_toThin a1 (I 80) (qDb P) (-1) (nI (qF P)) (I 75 7) (I 75 8) (I 79) (nI (qNl P)) (I 98) (I 94) (I 91) (nI (qH P)) (I 75 0) (I 93) (I 76) (I 77) (nI (qW P))) _ from m_toThin (fcell := I 54) (fsore := I 55) (fheld := I 56) hP hm hN)
    have hw2 : f_L_toThin a1 1 (J 107) (I 54) (I 53 3) (I 56) (I 53 0) (I 57) (I 53 1) (I 55) (J 53 2) (I 73) (I 52) (I 32) (I 31 3) (I 34) (I 31 0) (I 35) (I 31 1) (I 33) (J 31 2) (I 19 12) (I 19 3) (I 27) (I 25 2) (I 26) (I 19 1) (I 30) (I 28 2) (I 29) (I 24) (I 19 9) (I 21) (I 22) (I 19 0) = some (k, oj, o0, o1, o2, o3, o4, o5, o6, o7, o8, o9, o10, o11) := by rw [eNf, eHr, ePn, eWl, eDb, eFg, eGc, eGn, eH, eHc, eHn, eLt, eNl, eSt, eWy, eW]; exact hw
    have hs2 : f_X12_toThin a1 (I 80) (I 75 6) (I 75 53) (I 75 3) (I 75 7) (I 75 8) (I 79) (I 75 5) (I 98) (I 94) (I 91) (I 75 2) (I 75 0) (I 93) (I 76) (I 77) (I 75 1) = some (b, s0, s1, s2, s3, s4) := by rw [mDb, eDa, mF, mNl, mH, mW]; exact hs
    refine ok_L_toThin_0_107_q (by decide) (zwp_of hw2 ?_)
    refine ⟨k, 19, 7, _, _, rfl, rfl, ?_⟩
    refine ok_X12_toThin_75 (by decide) (zwp_of hs2 ?_)
    refine ⟨b, _, _, rfl, rfl, hthr.trans hk.symm, fun h => (hans (hk.symm.trans h)).trans (congrArg Int32.toInt64 hb.symm), ?_⟩
    exact ⟨Or.inr ⟨rfl, rfl⟩, P, hr, pn, wl, nx, na, nn, ns, sz, hP, hm, hN.fr hP hrw, hD, hRf, hNo, hS, hIm, hT, eT1, eT2, eF, eDa, eW, eH, eFg, eSt, eWy, eNs, eNl, eLt, eDb, eGc, eGn, eHc, eHn, eHr, ePn, eWl, eNf, eNx, eNa, eNn, mW, mH, mF, mNs, mNl, mDb, mNa, mNn⟩
theorem op_seats {p q : Nat} {I : pI} {J : pJ} (H : Inv p q I J) (a1 : Int32) : OpH 288 249 [.int a1] p q I J := by
  obtain ⟨hpq, P, hr, pn, wl, nx, na, nn, ns, sz, hP, hm, hN, hD, hRf, hNo, hS, hIm, hT, eT1, eT2, eF, eDa, eW, eH, eFg, eSt, eWy, eNs, eNl, eLt, eDb, eGc, eGn, eHc, eHn, eHr, ePn, eWl, eNf, eNx, eNa, eNn, mW, mH, mF, mNs, mNl, mDb, mNa, mNn⟩ := H
  rcases hpq with ⟨rfl, rfl⟩ | ⟨rfl, rfl⟩
  · replace hS : SeatR P ns (I 11) (I 78) := hS
    replace eW : I 7 0 = nI (qW P) := eW
    replace eH : I 7 1 = nI (qH P) := eH
    replace eFg : I 7 3 = nI (qF P) := eFg
    replace eSt : I 9 = qSt P := eSt
    replace eWy : I 10 = qWy P := eWy
    replace eNs : I 7 7 = nI ns := eNs
    replace eNl : I 7 9 = nI (qNl P) := eNl
    replace eLt : I 12 = qLt P := eLt
    replace eDb : I 7 12 = qDb P := eDb
    replace eGc : I 15 = qGc P := eGc
    replace eGn : I 13 2 = nI (qGn P) := eGn
    replace eHc : I 18 = qHc P := eHc
    replace eHn : I 16 2 = nI (qHn P) := eHn
    obtain ⟨⟨r0, r2⟩, hr1, h1⟩ := zwp_get (show zwp (f_X11_seats a1 (I 32) (lN wl) (nI (qF P)) (nI (qH P)) (I 11) (nI ns) (nI (qW P)) (I 63) (I 61 4) (I 62) (I 61 3) (I 64) (I 59) (I 60)) _ from c_seats hP hN hS)
    obtain ⟨⟨k, oj, o0, o1, o2, o3, o4, o5, o6⟩, hw, hk, hans, ho⟩ := zwp_get (l_seats (m_ar := J 107) (Q := fun x => x = r2) (zwp_of hr1 ⟨h1, rfl⟩))
    obtain ⟨⟨b, s0, s1, s2, s3, s4⟩, hs, hb, hthr⟩ := zwp_get (show zwp (f_X12_seats a1 (I 95) (nI (qF P)) (I 100) (I 96) (I 91) (I 78) (I 99) (nI ns) (nI (qH P)) (I 75 0) (nI (qW P))) _ from m_seats hP hN hS)
    have hw2 : f_L_seats a1 1 (J 107) (I 32) (J 31 2) (I 7 3) (I 7 1) (I 11) (I 7 7) (I 7 0) (I 63) (I 61 4) (I 62) (I 61 3) (I 64) (I 59) (I 60) = some (k, oj, o0, o1, o2, o3, o4, o5, o6) := by rw [eWl, eFg, eH, eNs, eW]; exact hw
    have hs2 : f_X12_seats a1 (I 95) (I 75 3) (I 100) (I 96) (I 91) (I 78) (I 99) (I 75 4) (I 75 2) (I 75 0) (I 75 1) = some (b, s0, s1, s2, s3, s4) := by rw [mF, mNs, mH, mW]; exact hs
    refine ok_L_seats_0_107_p (by decide) (zwp_of hw2 ?_)
    refine ⟨k, 7, 19, _, _, rfl, rfl, ?_⟩
    refine ok_X12_seats_75 (by decide) (zwp_of hs2 ?_)
    refine ⟨b, _, _, rfl, rfl, hthr.trans hk.symm, fun h => (hans (hk.symm.trans h)).trans (congrArg Int32.toInt64 hb.symm), ?_⟩
    exact ⟨Or.inl ⟨rfl, rfl⟩, P, hr, pn, wl, nx, na, nn, ns, sz, hP, hm, hN, hD, hRf, hNo, hS, hIm, hT, eT1, eT2, eF, eDa, eW, eH, eFg, eSt, eWy, eNs, eNl, eLt, eDb, eGc, eGn, eHc, eHn, eHr, ePn, eWl, eNf, eNx, eNa, eNn, mW, mH, mF, mNs, mNl, mDb, mNa, mNn⟩
  · replace hS : SeatR P ns (I 23) (I 78) := hS
    replace eW : I 19 0 = nI (qW P) := eW
    replace eH : I 19 1 = nI (qH P) := eH
    replace eFg : I 19 3 = nI (qF P) := eFg
    replace eSt : I 21 = qSt P := eSt
    replace eWy : I 22 = qWy P := eWy
    replace eNs : I 19 7 = nI ns := eNs
    replace eNl : I 19 9 = nI (qNl P) := eNl
    replace eLt : I 24 = qLt P := eLt
    replace eDb : I 19 12 = qDb P := eDb
    replace eGc : I 27 = qGc P := eGc
    replace eGn : I 25 2 = nI (qGn P) := eGn
    replace eHc : I 30 = qHc P := eHc
    replace eHn : I 28 2 = nI (qHn P) := eHn
    obtain ⟨⟨r0, r2⟩, hr1, h1⟩ := zwp_get (show zwp (f_X11_seats a1 (I 32) (lN wl) (nI (qF P)) (nI (qH P)) (I 23) (nI ns) (nI (qW P)) (I 63) (I 61 4) (I 62) (I 61 3) (I 64) (I 59) (I 60)) _ from c_seats hP hN hS)
    obtain ⟨⟨k, oj, o0, o1, o2, o3, o4, o5, o6⟩, hw, hk, hans, ho⟩ := zwp_get (l_seats (m_ar := J 107) (Q := fun x => x = r2) (zwp_of hr1 ⟨h1, rfl⟩))
    obtain ⟨⟨b, s0, s1, s2, s3, s4⟩, hs, hb, hthr⟩ := zwp_get (show zwp (f_X12_seats a1 (I 95) (nI (qF P)) (I 100) (I 96) (I 91) (I 78) (I 99) (nI ns) (nI (qH P)) (I 75 0) (nI (qW P))) _ from m_seats hP hN hS)
    have hw2 : f_L_seats a1 1 (J 107) (I 32) (J 31 2) (I 19 3) (I 19 1) (I 23) (I 19 7) (I 19 0) (I 63) (I 61 4) (I 62) (I 61 3) (I 64) (I 59) (I 60) = some (k, oj, o0, o1, o2, o3, o4, o5, o6) := by rw [eWl, eFg, eH, eNs, eW]; exact hw
    have hs2 : f_X12_seats a1 (I 95) (I 75 3) (I 100) (I 96) (I 91) (I 78) (I 99) (I 75 4) (I 75 2) (I 75 0) (I 75 1) = some (b, s0, s1, s2, s3, s4) := by rw [mF, mNs, mH, mW]; exact hs
    refine ok_L_seats_0_107_q (by decide) (zwp_of hw2 ?_)
    refine ⟨k, 19, 7, _, _, rfl, rfl, ?_⟩
    refine ok_X12_seats_75 (by decide) (zwp_of hs2 ?_)
    refine ⟨b, _, _, rfl, rfl, hthr.trans hk.symm, fun h => (hans (hk.symm.trans h)).trans (congrArg Int32.toInt64 hb.symm), ?_⟩
    exact ⟨Or.inr ⟨rfl, rfl⟩, P, hr, pn, wl, nx, na, nn, ns, sz, hP, hm, hN, hD, hRf, hNo, hS, hIm, hT, eT1, eT2, eF, eDa, eW, eH, eFg, eSt, eWy, eNs, eNl, eLt, eDb, eGc, eGn, eHc, eHn, eHr, ePn, eWl, eNf, eNx, eNa, eNn, mW, mH, mF, mNs, mNl, mDb, mNa, mNn⟩
theorem op_seat {p q : Nat} {I : pI} {J : pJ} (H : Inv p q I J) (a1 : Int32) : OpH 289 250 [.int a1] p q I J := by
  obtain ⟨hpq, P, hr, pn, wl, nx, na, nn, ns, sz, hP, hm, hN, hD, hRf, hNo, hS, hIm, hT, eT1, eT2, eF, eDa, eW, eH, eFg, eSt, eWy, eNs, eNl, eLt, eDb, eGc, eGn, eHc, eHn, eHr, ePn, eWl, eNf, eNx, eNa, eNn, mW, mH, mF, mNs, mNl, mDb, mNa, mNn⟩ := H
  rcases hpq with ⟨rfl, rfl⟩ | ⟨rfl, rfl⟩
  · replace hS : SeatR P ns (I 11) (I 78) := hS
    replace eW : I 7 0 = nI (qW P) := eW
    replace eH : I 7 1 = nI (qH P) := eH
    replace eFg : I 7 3 = nI (qF P) := eFg
    replace eSt : I 9 = qSt P := eSt
    replace eWy : I 10 = qWy P := eWy
    replace eNs : I 7 7 = nI ns := eNs
    replace eNl : I 7 9 = nI (qNl P) := eNl
    replace eLt : I 12 = qLt P := eLt
    replace eDb : I 7 12 = qDb P := eDb
    replace eGc : I 15 = qGc P := eGc
    replace eGn : I 13 2 = nI (qGn P) := eGn
    replace eHc : I 18 = qHc P := eHc
    replace eHn : I 16 2 = nI (qHn P) := eHn
    obtain ⟨⟨r0, r2⟩, hr1, h1⟩ := zwp_get (show zwp (f_X11_seat a1 (I 32) (lN wl) (nI (qF P)) (nI (qH P)) (I 11) (nI ns) (nI (qW P)) (I 63) (I 61 4) (I 62) (I 61 3) (I 64) (I 59) (I 60)) _ from c_seat hP hN hS)
    obtain ⟨⟨k, oj, o0, o1, o2, o3, o4, o5, o6⟩, hw, hk, hans, ho⟩ := zwp_get (l_seat (m_ar := J 107) (Q := fun x => x = r2) (zwp_of hr1 ⟨h1, rfl⟩))
    obtain ⟨⟨b, s0, s1, s2, s3, s4⟩, hs, hb, hthr⟩ := zwp_get (show zwp (f_X12_seat a1 (I 95) (nI (qF P)) (I 100) (I 96) (I 91) (I 78) (I 99) (nI ns) (nI (qH P)) (I 75 0) (nI (qW P))) _ from m_seat hP hN hS)
    have hw2 : f_L_seat a1 1 (J 107) (I 32) (J 31 2) (I 7 3) (I 7 1) (I 11) (I 7 7) (I 7 0) (I 63) (I 61 4) (I 62) (I 61 3) (I 64) (I 59) (I 60) = some (k, oj, o0, o1, o2, o3, o4, o5, o6) := by rw [eWl, eFg, eH, eNs, eW]; exact hw
    have hs2 : f_X12_seat a1 (I 95) (I 75 3) (I 100) (I 96) (I 91) (I 78) (I 99) (I 75 4) (I 75 2) (I 75 0) (I 75 1) = some (b, s0, s1, s2, s3, s4) := by rw [mF, mNs, mH, mW]; exact hs
    refine ok_L_seat_0_107_p (by decide) (zwp_of hw2 ?_)
    refine ⟨k, 7, 19, _, _, rfl, rfl, ?_⟩
    refine ok_X12_seat_75 (by decide) (zwp_of hs2 ?_)
    refine ⟨b, _, _, rfl, rfl, hthr.trans hk.symm, fun h => (hans (hk.symm.trans h)).trans (congrArg Int32.toInt64 hb.symm), ?_⟩
    exact ⟨Or.inl ⟨rfl, rfl⟩, P, hr, pn, wl, nx, na, nn, ns, sz, hP, hm, hN, hD, hRf, hNo, hS, hIm, hT, eT1, eT2, eF, eDa, eW, eH, eFg, eSt, eWy, eNs, eNl, eLt, eDb, eGc, eGn, eHc, eHn, eHr, ePn, eWl, eNf, eNx, eNa, eNn, mW, mH, mF, mNs, mNl, mDb, mNa, mNn⟩
  · replace hS : SeatR P ns (I 23) (I 78) := hS
    replace eW : I 19 0 = nI (qW P) := eW
    replace eH : I 19 1 = nI (qH P) := eH
    replace eFg : I 19 3 = nI (qF P) := eFg
    replace eSt : I 21 = qSt P := eSt
    replace eWy : I 22 = qWy P := eWy
    replace eNs : I 19 7 = nI ns := eNs
    replace eNl : I 19 9 = nI (qNl P) := eNl
    replace eLt : I 24 = qLt P := eLt
    replace eDb : I 19 12 = qDb P := eDb
    replace eGc : I 27 = qGc P := eGc
    replace eGn : I 25 2 = nI (qGn P) := eGn
    replace eHc : I 30 = qHc P := eHc
    replace eHn : I 28 2 = nI (qHn P) := eHn
    obtain ⟨⟨r0, r2⟩, hr1, h1⟩ := zwp_get (show zwp (f_X11_seat a1 (I 32) (lN wl) (nI (qF P)) (nI (qH P)) (I 23) (nI ns) (nI (qW P)) (I 63) (I 61 4) (I 62) (I 61 3) (I 64) (I 59) (I 60)) _ from c_seat hP hN hS)
    obtain ⟨⟨k, oj, o0, o1, o2, o3, o4, o5, o6⟩, hw, hk, hans, ho⟩ := zwp_get (l_seat (m_ar := J 107) (Q := fun x => x = r2) (zwp_of hr1 ⟨h1, rfl⟩))
    obtain ⟨⟨b, s0, s1, s2, s3, s4⟩, hs, hb, hthr⟩ := zwp_get (show zwp (f_X12_seat a1 (I 95) (nI (qF P)) (I 100) (I 96) (I 91) (I 78) (I 99) (nI ns) (nI (qH P)) (I 75 0) (nI (qW P))) _ from m_seat hP hN hS)
    have hw2 : f_L_seat a1 1 (J 107) (I 32) (J 31 2) (I 19 3) (I 19 1) (I 23) (I 19 7) (I 19 0) (I 63) (I 61 4) (I 62) (I 61 3) (I 64) (I 59) (I 60) = some (k, oj, o0, o1, o2, o3, o4, o5, o6) := by rw [eWl, eFg, eH, eNs, eW]; exact hw
    have hs2 : f_X12_seat a1 (I 95) (I 75 3) (I 100) (I 96) (I 91) (I 78) (I 99) (I 75 4) (I 75 2) (I 75 0) (I 75 1) = some (b, s0, s1, s2, s3, s4) := by rw [mF, mNs, mH, mW]; exact hs
    refine ok_L_seat_0_107_q (by decide) (zwp_of hw2 ?_)
    refine ⟨k, 19, 7, _, _, rfl, rfl, ?_⟩
    refine ok_X12_seat_75 (by decide) (zwp_of hs2 ?_)
    refine ⟨b, _, _, rfl, rfl, hthr.trans hk.symm, fun h => (hans (hk.symm.trans h)).trans (congrArg Int32.toInt64 hb.symm), ?_⟩
    exact ⟨Or.inr ⟨rfl, rfl⟩, P, hr, pn, wl, nx, na, nn, ns, sz, hP, hm, hN, hD, hRf, hNo, hS, hIm, hT, eT1, eT2, eF, eDa, eW, eH, eFg, eSt, eWy, eNs, eNl, eLt, eDb, eGc, eGn, eHc, eHn, eHr, ePn, eWl, eNf, eNx, eNa, eNn, mW, mH, mF, mNs, mNl, mDb, mNa, mNn⟩
theorem op_ahead {p q : Nat} {I : pI} {J : pJ} (H : Inv p q I J) (a1 : Int32) : OpH 291 255 [.int a1] p q I J := by
  obtain ⟨hpq, P, hr, pn, wl, nx, na, nn, ns, sz, hP, hm, hN, hD, hRf, hNo, hS, hIm, hT, eT1, eT2, eF, eDa, eW, eH, eFg, eSt, eWy, eNs, eNl, eLt, eDb, eGc, eGn, eHc, eHn, eHr, ePn, eWl, eNf, eNx, eNa, eNn, mW, mH, mF, mNs, mNl, mDb, mNa, mNn⟩ := H
  rcases hpq with ⟨rfl, rfl⟩ | ⟨rfl, rfl⟩
  · replace hS : SeatR P ns (I 11) (I 78) := hS
    replace eW : I 7 0 = nI (qW P) := eW
    replace eH : I 7 1 = nI (qH P) := eH
    replace eFg : I 7 3 = nI (qF P) := eFg
    replace eSt : I 9 = qSt P := eSt
    replace eWy : I 10 = qWy P := eWy
    replace eNs : I 7 7 = nI ns := eNs
    replace eNl : I 7 9 = nI (qNl P) := eNl
    replace eLt : I 12 = qLt P := eLt
    replace eDb : I 7 12 = qDb P := eDb
    replace eGc : I 15 = qGc P := eGc
    replace eGn : I 13 2 = nI (qGn P) := eGn
    replace eHc : I 18 = qHc P := eHc
    replace eHn : I 16 2 = nI (qHn P) := eHn
    obtain ⟨⟨r0, r2⟩, hr1, h1⟩ := zwp_get (show zwp (f_X11_ahead a1 (I 39) (I 38) (I 40) (nI nn) (I 54) (I 53 3) (I 56) (I 53 0) (I 57) (I 53 1) (I 55) (J 53 2) (I 65 3) (I 65 2) (J 71) (I 67) (I 66 3) (I 69) (I 66 0) (I 70) (I 66 1) (I 68) (J 66 2) (I 52) (I 32) (nI (qF P)) (I 34) (nI hr) (I 35) (nI pn) (I 33) (lN wl) (qDb P) (nI (qF P)) (qGc P) (nI (qGn P)) (I 14) (nI (qH P)) (qHc P) (nI (qHn P)) (I 17) (qLt P) (nI (qNl P)) (qSt P) (qWy P) (nI (qW P))) _ from c_ahead hP hN hNo)
    obtain ⟨⟨k, oj, o0, o1, o2, o3, o4, o5, o6, o7, o8, o9, o10, o11, o12, o13, o14, o15, o16, o17, o18, o19, o20, o21⟩, hw, hk, hans, ho⟩ := zwp_get (l_ahead (m_ar := J 107) (Q := fun x => x = r2) (zwp_of hr1 ⟨h1, rfl⟩))
    obtain ⟨⟨b, s0, s1, s2, s3, s4⟩, hs, hb, hthr, hrw⟩ := zwp_get (show zwp (f_X12_ahead a1 (I 80) (qDb P) (-1) (nI (qF P)) (I 75 7) (I 75 8) (I 79) (nI (qNl P)) (I 101) (nI nn) (I 94) (I 91) (I 102) (nI (qH P)) (I 75 0) (I 93) (I 76) (I 77) (nI (qW P))) _ from m_ahead hP hm hN hNo)
    have hw2 : f_L_ahead a1 1 (J 107) (I 39) (I 38) (I 40) (I 36 3) (I 54) (I 53 3) (I 56) (I 53 0) (I 57) (I 53 1) (I 55) (J 53 2) (I 65 3) (I 65 2) (J 71) (I 67) (I 66 3) (I 69) (I 66 0) (I 70) (I 66 1) (I 68) (J 66 2) (I 52) (I 32) (I 31 3) (I 34) (I 31 0) (I 35) (I 31 1) (I 33) (J 31 2) (I 7 12) (I 7 3) (I 15) (I 13 2) (I 14) (I 7 1) (I 18) (I 16 2) (I 17) (I 12) (I 7 9) (I 9) (I 10) (I 7 0) = some (k, oj, o0, o1, o2, o3, o4, o5, o6, o7, o8, o9, o10, o11, o12, o13, o14, o15, o16, o17, o18, o19, o20, o21) := by rw [eNn, eNf, eHr, ePn, eWl, eDb, eFg, eGc, eGn, eH, eHc, eHn, eLt, eNl, eSt, eWy, eW]; exact hw
    have hs2 : f_X12_ahead a1 (I 80) (I 75 6) (I 75 53) (I 75 3) (I 75 7) (I 75 8) (I 79) (I 75 5) (I 101) (I 75 60) (I 94) (I 91) (I 102) (I 75 2) (I 75 0) (I 93) (I 76) (I 77) (I 75 1) = some (b, s0, s1, s2, s3, s4) := by rw [mDb, eDa, mF, mNl, mNn, mH, mW]; exact hs
    refine ok_L_ahead_0_107_p (by decide) (zwp_of hw2 ?_)
    refine ⟨k, 7, 19, _, _, rfl, rfl, ?_⟩
    refine ok_X12_ahead_75 (by decide) (zwp_of hs2 ?_)
    refine ⟨b, _, _, rfl, rfl, hthr.trans hk.symm, fun h => (hans (hk.symm.trans h)).trans (congrArg Int32.toInt64 hb.symm), ?_⟩
    exact ⟨Or.inl ⟨rfl, rfl⟩, P, hr, pn, wl, nx, na, nn, ns, sz, hP, hm, hN.fr hP hrw, hD, hRf, hNo, hS, hIm, hT, eT1, eT2, eF, eDa, eW, eH, eFg, eSt, eWy, eNs, eNl, eLt, eDb, eGc, eGn, eHc, eHn, eHr, ePn, eWl, eNf, eNx, eNa, eNn, mW, mH, mF, mNs, mNl, mDb, mNa, mNn⟩
  · replace hS : SeatR P ns (I 23) (I 78) := hS
    replace eW : I 19 0 = nI (qW P) := eW
    replace eH : I 19 1 = nI (qH P) := eH
    replace eFg : I 19 3 = nI (qF P) := eFg
    replace eSt : I 21 = qSt P := eSt
    replace eWy : I 22 = qWy P := eWy
    replace eNs : I 19 7 = nI ns := eNs
    replace eNl : I 19 9 = nI (qNl P) := eNl
    replace eLt : I 24 = qLt P := eLt
    replace eDb : I 19 12 = qDb P := eDb
    replace eGc : I 27 = qGc P := eGc
    replace eGn : I 25 2 = nI (qGn P) := eGn
    replace eHc : I 30 = qHc P := eHc
    replace eHn : I 28 2 = nI (qHn P) := eHn
    obtain ⟨⟨r0, r2⟩, hr1, h1⟩ := zwp_get (show zwp (f_X11_ahead a1 (I 39) (I 38) (I 40) (nI nn) (I 54) (I 53 3) (I 56) (I 53 0) (I 57) (I 53 1) (I 55) (J 53 2) (I 65 3) (I 65 2) (J 71) (I 67) (I 66 3) (I 69) (I 66 0) (I 70) (I 66 1) (I 68) (J 66 2) (I 52) (I 32) (nI (qF P)) (I 34) (nI hr) (I 35) (nI pn) (I 33) (lN wl) (qDb P) (nI (qF P)) (qGc P) (nI (qGn P)) (I 26) (nI (qH P)) (qHc P) (nI (qHn P)) (I 29) (qLt P) (nI (qNl P)) (qSt P) (qWy P) (nI (qW P))) _ from c_ahead hP hN hNo)
    obtain ⟨⟨k, oj, o0, o1, o2, o3, o4, o5, o6, o7, o8, o9, o10, o11, o12, o13, o14, o15, o16, o17, o18, o19, o20, o21⟩, hw, hk, hans, ho⟩ := zwp_get (l_ahead (m_ar := J 107) (Q := fun x => x = r2) (zwp_of hr1 ⟨h1, rfl⟩))
    obtain ⟨⟨b, s0, s1, s2, s3, s4⟩, hs, hb, hthr, hrw⟩ := zwp_get (show zwp (f_X12_ahead a1 (I 80) (qDb P) (-1) (nI (qF P)) (I 75 7) (I 75 8) (I 79) (nI (qNl P)) (I 101) (nI nn) (I 94) (I 91) (I 102) (nI (qH P)) (I 75 0) (I 93) (I 76) (I 77) (nI (qW P))) _ from m_ahead hP hm hN hNo)
    have hw2 : f_L_ahead a1 1 (J 107) (I 39) (I 38) (I 40) (I 36 3) (I 54) (I 53 3) (I 56) (I 53 0) (I 57) (I 53 1) (I 55) (J 53 2) (I 65 3) (I 65 2) (J 71) (I 67) (I 66 3) (I 69) (I 66 0) (I 70) (I 66 1) (I 68) (J 66 2) (I 52) (I 32) (I 31 3) (I 34) (I 31 0) (I 35) (I 31 1) (I 33) (J 31 2) (I 19 12) (I 19 3) (I 27) (I 25 2) (I 26) (I 19 1) (I 30) (I 28 2) (I 29) (I 24) (I 19 9) (I 21) (I 22) (I 19 0) = some (k, oj, o0, o1, o2, o3, o4, o5, o6, o7, o8, o9, o10, o11, o12, o13, o14, o15, o16, o17, o18, o19, o20, o21) := by rw [eNn, eNf, eHr, ePn, eWl, eDb, eFg, eGc, eGn, eH, eHc, eHn, eLt, eNl, eSt, eWy, eW]; exact hw
    have hs2 : f_X12_ahead a1 (I 80) (I 75 6) (I 75 53) (I 75 3) (I 75 7) (I 75 8) (I 79) (I 75 5) (I 101) (I 75 60) (I 94) (I 91) (I 102) (I 75 2) (I 75 0) (I 93) (I 76) (I 77) (I 75 1) = some (b, s0, s1, s2, s3, s4) := by rw [mDb, eDa, mF, mNl, mNn, mH, mW]; exact hs
    refine ok_L_ahead_0_107_q (by decide) (zwp_of hw2 ?_)
    refine ⟨k, 19, 7, _, _, rfl, rfl, ?_⟩
    refine ok_X12_ahead_75 (by decide) (zwp_of hs2 ?_)
    refine ⟨b, _, _, rfl, rfl, hthr.trans hk.symm, fun h => (hans (hk.symm.trans h)).trans (congrArg Int32.toInt64 hb.symm), ?_⟩
    exact ⟨Or.inr ⟨rfl, rfl⟩, P, hr, pn, wl, nx, na, nn, ns, sz, hP, hm, hN.fr hP hrw, hD, hRf, hNo, hS, hIm, hT, eT1, eT2, eF, eDa, eW, eH, eFg, eSt, eWy, eNs, eNl, eLt, eDb, eGc, eGn, eHc, eHn, eHr, ePn, eWl, eNf, eNx, eNa, eNn, mW, mH, mF, mNs, mNl, mDb, mNa, mNn⟩
theorem op_look {p q : Nat} {I : pI} {J : pJ} (H : Inv p q I J) (a1 : Int32) : OpH 292 256 [.int a1] p q I J := by
  obtain ⟨hpq, P, hr, pn, wl, nx, na, nn, ns, sz, hP, hm, hN, hD, hRf, hNo, hS, hIm, hT, eT1, eT2, eF, eDa, eW, eH, eFg, eSt, eWy, eNs, eNl, eLt, eDb, eGc, eGn, eHc, eHn, eHr, ePn, eWl, eNf, eNx, eNa, eNn, mW, mH, mF, mNs, mNl, mDb, mNa, mNn⟩ := H
  rcases hpq with ⟨rfl, rfl⟩ | ⟨rfl, rfl⟩
  · replace hS : SeatR P ns (I 11) (I 78) := hS
    replace eW : I 7 0 = nI (qW P) := eW
    replace eH : I 7 1 = nI (qH P) := eH
    replace eFg : I 7 3 = nI (qF P) := eFg
    replace eSt : I 9 = qSt P := eSt
    replace eWy : I 10 = qWy P := eWy
    replace eNs : I 7 7 = nI ns := eNs
    replace eNl : I 7 9 = nI (qNl P) := eNl
    replace eLt : I 12 = qLt P := eLt
    replace eDb : I 7 12 = qDb P := eDb
    replace eGc : I 15 = qGc P := eGc
    replace eGn : I 13 2 = nI (qGn P) := eGn
    replace eHc : I 18 = qHc P := eHc
    replace eHn : I 16 2 = nI (qHn P) := eHn
    obtain ⟨⟨r0, r2⟩, hr1, h1⟩ := zwp_get (show zwp (f_X11_look a1 (I 39) (I 38) (I 40) (nI nn) (I 65 3) (I 65 2) (J 71) (I 67) (I 66 3) (I 69) (I 66 0) (I 70) (I 66 1) (I 68) (J 66 2) (I 52) (I 32) (nI (qF P)) (I 34) (nI hr) (I 35) (nI pn) (I 33) (lN wl) (qDb P) (nI (qF P)) (qGc P) (nI (qGn P)) (I 14) (nI (qH P)) (qHc P) (nI (qHn P)) (I 17) (qLt P) (nI (qNl P)) (qSt P) (qWy P) (nI (qW P))) _ from c_look hP hN hNo)
    obtain ⟨⟨k, oj, o0, o1, o2, o3, o4, o5, o6, o7, o8, o9, o10, o11, o12, o13⟩, hw, hk, hans, ho⟩ := zwp_get (l_look (m_ar := J 107) (Q := fun x => x = r2) (zwp_of hr1 ⟨h1, rfl⟩))
    obtain ⟨⟨b, s0, s1, s2, s3, s4, s5⟩, hs, hb, hthr, hrw⟩ := zwp_get (show zwp (f_X12_look a1 (I 80) (qDb P) (-1) (nI (qF P)) (I 75 7) (I 75 8) (I 79) (nI (qNl P)) (I 101) (nI nn) (I 94) (I 91) (I 102) (I 103) (nI (qH P)) (I 75 0) (I 93) (I 76) (I 77) (nI (qW P))) _ from m_look hP hm hN hNo)
    have hw2 : f_L_look a1 1 (J 107) (I 39) (I 38) (I 40) (I 36 3) (I 65 3) (I 65 2) (J 71) (I 67) (I 66 3) (I 69) (I 66 0) (I 70) (I 66 1) (I 68) (J 66 2) (I 52) (I 32) (I 31 3) (I 34) (I 31 0) (I 35) (I 31 1) (I 33) (J 31 2) (I 7 12) (I 7 3) (I 15) (I 13 2) (I 14) (I 7 1) (I 18) (I 16 2) (I 17) (I 12) (I 7 9) (I 9) (I 10) (I 7 0) = some (k, oj, o0, o1, o2, o3, o4, o5, o6, o7, o8, o9, o10, o11, o12, o13) := by rw [eNn, eNf, eHr, ePn, eWl, eDb, eFg, eGc, eGn, eH, eHc, eHn, eLt, eNl, eSt, eWy, eW]; exact hw
    have hs2 : f_X12_look a1 (I 80) (I 75 6) (I 75 53) (I 75 3) (I 75 7) (I 75 8) (I 79) (I 75 5) (I 101) (I 75 60) (I 94) (I 91) (I 102) (I 103) (I 75 2) (I 75 0) (I 93) (I 76) (I 77) (I 75 1) = some (b, s0, s1, s2, s3, s4, s5) := by rw [mDb, eDa, mF, mNl, mNn, mH, mW]; exact hs
    refine ok_L_look_0_107_p (by decide) (zwp_of hw2 ?_)
    refine ⟨k, 7, 19, _, _, rfl, rfl, ?_⟩
    refine ok_X12_look_75 (by decide) (zwp_of hs2 ?_)
    refine ⟨b, _, _, rfl, rfl, hthr.trans hk.symm, fun h => (hans (hk.symm.trans h)).trans (congrArg Int32.toInt64 hb.symm), ?_⟩
    exact ⟨Or.inl ⟨rfl, rfl⟩, P, hr, pn, wl, nx, na, nn, ns, sz, hP, hm, hN.fr hP hrw, hD, hRf, hNo, hS, hIm, hT, eT1, eT2, eF, eDa, eW, eH, eFg, eSt, eWy, eNs, eNl, eLt, eDb, eGc, eGn, eHc, eHn, eHr, ePn, eWl, eNf, eNx, eNa, eNn, mW, mH, mF, mNs, mNl, mDb, mNa, mNn⟩
  · replace hS : SeatR P ns (I 23) (I 78) := hS
    replace eW : I 19 0 = nI (qW P) := eW
    replace eH : I 19 1 = nI (qH P) := eH
    replace eFg : I 19 3 = nI (qF P) := eFg
    replace eSt : I 21 = qSt P := eSt
    replace eWy : I 22 = qWy P := eWy
    replace eNs : I 19 7 = nI ns := eNs
    replace eNl : I 19 9 = nI (qNl P) := eNl
    replace eLt : I 24 = qLt P := eLt
    replace eDb : I 19 12 = qDb P := eDb
    replace eGc : I 27 = qGc P := eGc
    replace eGn : I 25 2 = nI (qGn P) := eGn
    replace eHc : I 30 = qHc P := eHc
    replace eHn : I 28 2 = nI (qHn P) := eHn
    obtain ⟨⟨r0, r2⟩, hr1, h1⟩ := zwp_get (show zwp (f_X11_look a1 (I 39) (I 38) (I 40) (nI nn) (I 65 3) (I 65 2) (J 71) (I 67) (I 66 3) (I 69) (I 66 0) (I 70) (I 66 1) (I 68) (J 66 2) (I 52) (I 32) (nI (qF P)) (I 34) (nI hr) (I 35) (nI pn) (I 33) (lN wl) (qDb P) (nI (qF P)) (qGc P) (nI (qGn P)) (I 26) (nI (qH P)) (qHc P) (nI (qHn P)) (I 29) (qLt P) (nI (qNl P)) (qSt P) (qWy P) (nI (qW P))) _ from c_look hP hN hNo)
    obtain ⟨⟨k, oj, o0, o1, o2, o3, o4, o5, o6, o7, o8, o9, o10, o11, o12, o13⟩, hw, hk, hans, ho⟩ := zwp_get (l_look (m_ar := J 107) (Q := fun x => x = r2) (zwp_of hr1 ⟨h1, rfl⟩))
    obtain ⟨⟨b, s0, s1, s2, s3, s4, s5⟩, hs, hb, hthr, hrw⟩ := zwp_get (show zwp (f_X12_look a1 (I 80) (qDb P) (-1) (nI (qF P)) (I 75 7) (I 75 8) (I 79) (nI (qNl P)) (I 101) (nI nn) (I 94) (I 91) (I 102) (I 103) (nI (qH P)) (I 75 0) (I 93) (I 76) (I 77) (nI (qW P))) _ from m_look hP hm hN hNo)
    have hw2 : f_L_look a1 1 (J 107) (I 39) (I 38) (I 40) (I 36 3) (I 65 3) (I 65 2) (J 71) (I 67) (I 66 3) (I 69) (I 66 0) (I 70) (I 66 1) (I 68) (J 66 2) (I 52) (I 32) (I 31 3) (I 34) (I 31 0) (I 35) (I 31 1) (I 33) (J 31 2) (I 19 12) (I 19 3) (I 27) (I 25 2) (I 26) (I 19 1) (I 30) (I 28 2) (I 29) (I 24) (I 19 9) (I 21) (I 22) (I 19 0) = some (k, oj, o0, o1, o2, o3, o4, o5, o6, o7, o8, o9, o10, o11, o12, o13) := by rw [eNn, eNf, eHr, ePn, eWl, eDb, eFg, eGc, eGn, eH, eHc, eHn, eLt, eNl, eSt, eWy, eW]; exact hw
    have hs2 : f_X12_look a1 (I 80) (I 75 6) (I 75 53) (I 75 3) (I 75 7) (I 75 8) (I 79) (I 75 5) (I 101) (I 75 60) (I 94) (I 91) (I 102) (I 103) (I 75 2) (I 75 0) (I 93) (I 76) (I 77) (I 75 1) = some (b, s0, s1, s2, s3, s4, s5) := by rw [mDb, eDa, mF, mNl, mNn, mH, mW]; exact hs
    refine ok_L_look_0_107_q (by decide) (zwp_of hw2 ?_)
    refine ⟨k, 19, 7, _, _, rfl, rfl, ?_⟩
    refine ok_X12_look_75 (by decide) (zwp_of hs2 ?_)
    refine ⟨b, _, _, rfl, rfl, hthr.trans hk.symm, fun h => (hans (hk.symm.trans h)).trans (congrArg Int32.toInt64 hb.symm), ?_⟩
    exact ⟨Or.inr ⟨rfl, rfl⟩, P, hr, pn, wl, nx, na, nn, ns, sz, hP, hm, hN.fr hP hrw, hD, hRf, hNo, hS, hIm, hT, eT1, eT2, eF, eDa, eW, eH, eFg, eSt, eWy, eNs, eNl, eLt, eDb, eGc, eGn, eHc, eHn, eHr, ePn, eWl, eNf, eNx, eNa, eNn, mW, mH, mF, mNs, mNl, mDb, mNa, mNn⟩
theorem op_clouds {p q : Nat} {I : pI} {J : pJ} (H : Inv p q I J) (a1 a2 a3 a4 : Int32) : OpH 293 257 [.int a1, .int a2, .int a3, .int a4] p q I J := by
  obtain ⟨hpq, P, hr, pn, wl, nx, na, nn, ns, sz, hP, hm, hN, hD, hRf, hNo, hS, hIm, hT, eT1, eT2, eF, eDa, eW, eH, eFg, eSt, eWy, eNs, eNl, eLt, eDb, eGc, eGn, eHc, eHn, eHr, ePn, eWl, eNf, eNx, eNa, eNn, mW, mH, mF, mNs, mNl, mDb, mNa, mNn⟩ := H
  rcases hpq with ⟨rfl, rfl⟩ | ⟨rfl, rfl⟩
  · replace hS : SeatR P ns (I 11) (I 78) := hS
    replace eW : I 7 0 = nI (qW P) := eW
    replace eH : I 7 1 = nI (qH P) := eH
    replace eFg : I 7 3 = nI (qF P) := eFg
    replace eSt : I 9 = qSt P := eSt
    replace eWy : I 10 = qWy P := eWy
    replace eNs : I 7 7 = nI ns := eNs
    replace eNl : I 7 9 = nI (qNl P) := eNl
    replace eLt : I 12 = qLt P := eLt
    replace eDb : I 7 12 = qDb P := eDb
    replace eGc : I 15 = qGc P := eGc
    replace eGn : I 13 2 = nI (qGn P) := eGn
    replace eHc : I 18 = qHc P := eHc
    replace eHn : I 16 2 = nI (qHn P) := eHn
    obtain ⟨⟨r0, r2⟩, hr1, h1⟩ := zwp_get (show zwp (f_X11_clouds a1 a2 a3 a4 (I 54) (I 53 3) (I 56) (I 53 0) (I 57) (I 53 1) (I 55) (J 53 2) (I 52) (I 32) (nI (qF P)) (I 34) (nI hr) (I 35) (nI pn) (I 33) (lN wl) (nI (qF P)) (qGc P) (nI (qGn P)) (I 14) (nI (qH P)) (qHc P) (nI (qHn P)) (I 17) (qLt P) (nI (qNl P)) (qSt P) (qWy P) (nI (qW P))) _ from c_clouds hP hN)
    obtain ⟨⟨k, oj, o0, o1, o2, o3, o4, o5, o6, o7, o8, o9, o10⟩, hw, hk, hans, ho⟩ := zwp_get (l_clouds (m_ar := J 107) (Q := fun x => x = r2) (zwp_of hr1 ⟨h1, rfl⟩))
    obtain ⟨⟨b, s0, s1, s2, s3, s4⟩, hs, hb, hthr, hda, hrw⟩ := zwp_get (show zwp (f_X12_clouds a1 a2 a3 a4 (I 80) (qDb P) (-1) (nI (qF P)) (I 75 7) (I 75 8) (I 79) (nI (qNl P)) (I 94) (I 91) (nI (qH P)) (I 75 0) (I 93) (I 76) (I 77) (nI (qW P))) _ from m_clouds hP hm hN)
    have hw2 : f_L_clouds a1 a2 a3 a4 1 (J 107) (I 54) (I 53 3) (I 56) (I 53 0) (I 57) (I 53 1) (I 55) (J 53 2) (I 52) (I 32) (I 31 3) (I 34) (I 31 0) (I 35) (I 31 1) (I 33) (J 31 2) (I 7 3) (I 15) (I 13 2) (I 14) (I 7 1) (I 18) (I 16 2) (I 17) (I 12) (I 7 9) (I 9) (I 10) (I 7 0) = some (k, oj, o0, o1, o2, o3, o4, o5, o6, o7, o8, o9, o10) := by rw [eNf, eHr, ePn, eWl, eFg, eGc, eGn, eH, eHc, eHn, eLt, eNl, eSt, eWy, eW]; exact hw
    have hs2 : f_X12_clouds a1 a2 a3 a4 (I 80) (I 75 6) (I 75 53) (I 75 3) (I 75 7) (I 75 8) (I 79) (I 75 5) (I 94) (I 91) (I 75 2) (I 75 0) (I 93) (I 76) (I 77) (I 75 1) = some (b, s0, s1, s2, s3, s4) := by rw [mDb, eDa, mF, mNl, mH, mW]; exact hs
    refine ok_L_clouds_0_107_p (by decide) (zwp_of hw2 ?_)
    refine ⟨k, 7, 19, _, _, rfl, rfl, ?_⟩
    refine ok_X12_clouds_75 (by decide) (zwp_of hs2 ?_)
    refine ⟨b, _, _, rfl, rfl, hthr.trans hk.symm, fun h => (hans (hk.symm.trans h)).trans (congrArg Int32.toInt64 hb.symm), ?_⟩
    exact ⟨Or.inl ⟨rfl, rfl⟩, P, hr, pn, wl, nx, na, nn, ns, sz, hP, hm, hN.fr hP hrw, hD, hRf, hNo, hS, hIm, hT, eT1, eT2, eF, hda, eW, eH, eFg, eSt, eWy, eNs, eNl, eLt, eDb, eGc, eGn, eHc, eHn, eHr, ePn, eWl, eNf, eNx, eNa, eNn, mW, mH, mF, mNs, mNl, mDb, mNa, mNn⟩
  · replace hS : SeatR P ns (I 23) (I 78) := hS
    replace eW : I 19 0 = nI (qW P) := eW
    replace eH : I 19 1 = nI (qH P) := eH
    replace eFg : I 19 3 = nI (qF P) := eFg
    replace eSt : I 21 = qSt P := eSt
    replace eWy : I 22 = qWy P := eWy
    replace eNs : I 19 7 = nI ns := eNs
    replace eNl : I 19 9 = nI (qNl P) := eNl
    replace eLt : I 24 = qLt P := eLt
    replace eDb : I 19 12 = qDb P := eDb
    replace eGc : I 27 = qGc P := eGc
    replace eGn : I 25 2 = nI (qGn P) := eGn
    replace eHc : I 30 = qHc P := eHc
    replace eHn : I 28 2 = nI (qHn P) := eHn
    obtain ⟨⟨r0, r2⟩, hr1, h1⟩ := zwp_get (show zwp (f_X11_clouds a1 a2 a3 a4 (I 54) (I 53 3) (I 56) (I 53 0) (I 57) (I 53 1) (I 55) (J 53 2) (I 52) (I 32) (nI (qF P)) (I 34) (nI hr) (I 35) (nI pn) (I 33) (lN wl) (nI (qF P)) (qGc P) (nI (qGn P)) (I 26) (nI (qH P)) (qHc P) (nI (qHn P)) (I 29) (qLt P) (nI (qNl P)) (qSt P) (qWy P) (nI (qW P))) _ from c_clouds hP hN)
    obtain ⟨⟨k, oj, o0, o1, o2, o3, o4, o5, o6, o7, o8, o9, o10⟩, hw, hk, hans, ho⟩ := zwp_get (l_clouds (m_ar := J 107) (Q := fun x => x = r2) (zwp_of hr1 ⟨h1, rfl⟩))
    obtain ⟨⟨b, s0, s1, s2, s3, s4⟩, hs, hb, hthr, hda, hrw⟩ := zwp_get (show zwp (f_X12_clouds a1 a2 a3 a4 (I 80) (qDb P) (-1) (nI (qF P)) (I 75 7) (I 75 8) (I 79) (nI (qNl P)) (I 94) (I 91) (nI (qH P)) (I 75 0) (I 93) (I 76) (I 77) (nI (qW P))) _ from m_clouds hP hm hN)
    have hw2 : f_L_clouds a1 a2 a3 a4 1 (J 107) (I 54) (I 53 3) (I 56) (I 53 0) (I 57) (I 53 1) (I 55) (J 53 2) (I 52) (I 32) (I 31 3) (I 34) (I 31 0) (I 35) (I 31 1) (I 33) (J 31 2) (I 19 3) (I 27) (I 25 2) (I 26) (I 19 1) (I 30) (I 28 2) (I 29) (I 24) (I 19 9) (I 21) (I 22) (I 19 0) = some (k, oj, o0, o1, o2, o3, o4, o5, o6, o7, o8, o9, o10) := by rw [eNf, eHr, ePn, eWl, eFg, eGc, eGn, eH, eHc, eHn, eLt, eNl, eSt, eWy, eW]; exact hw
    have hs2 : f_X12_clouds a1 a2 a3 a4 (I 80) (I 75 6) (I 75 53) (I 75 3) (I 75 7) (I 75 8) (I 79) (I 75 5) (I 94) (I 91) (I 75 2) (I 75 0) (I 93) (I 76) (I 77) (I 75 1) = some (b, s0, s1, s2, s3, s4) := by rw [mDb, eDa, mF, mNl, mH, mW]; exact hs
    refine ok_L_clouds_0_107_q (by decide) (zwp_of hw2 ?_)
    refine ⟨k, 19, 7, _, _, rfl, rfl, ?_⟩
    refine ok_X12_clouds_75 (by decide) (zwp_of hs2 ?_)
    refine ⟨b, _, _, rfl, rfl, hthr.trans hk.symm, fun h => (hans (hk.symm.trans h)).trans (congrArg Int32.toInt64 hb.symm), ?_⟩
    exact ⟨Or.inr ⟨rfl, rfl⟩, P, hr, pn, wl, nx, na, nn, ns, sz, hP, hm, hN.fr hP hrw, hD, hRf, hNo, hS, hIm, hT, eT1, eT2, eF, hda, eW, eH, eFg, eSt, eWy, eNs, eNl, eLt, eDb, eGc, eGn, eHc, eHn, eHr, ePn, eWl, eNf, eNx, eNa, eNn, mW, mH, mF, mNs, mNl, mDb, mNa, mNn⟩
theorem op_game {p q : Nat} {I : pI} {J : pJ} (H : Inv p q I J) (a1 a2 a3 : Int32) : OpH 294 259 [.int a1, .int a2, .int a3] p q I J := by
  obtain ⟨hpq, P, hr, pn, wl, nx, na, nn, ns, sz, hP, hm, hN, hD, hRf, hNo, hS, hIm, hT, eT1, eT2, eF, eDa, eW, eH, eFg, eSt, eWy, eNs, eNl, eLt, eDb, eGc, eGn, eHc, eHn, eHr, ePn, eWl, eNf, eNx, eNa, eNn, mW, mH, mF, mNs, mNl, mDb, mNa, mNn⟩ := H
  rcases hpq with ⟨rfl, rfl⟩ | ⟨rfl, rfl⟩
  · replace hS : SeatR P ns (I 11) (I 78) := hS
    replace eW : I 7 0 = nI (qW P) := eW
    replace eH : I 7 1 = nI (qH P) := eH
    replace eFg : I 7 3 = nI (qF P) := eFg
    replace eSt : I 9 = qSt P := eSt
    replace eWy : I 10 = qWy P := eWy
    replace eNs : I 7 7 = nI ns := eNs
    replace eNl : I 7 9 = nI (qNl P) := eNl
    replace eLt : I 12 = qLt P := eLt
    replace eDb : I 7 12 = qDb P := eDb
    replace eGc : I 15 = qGc P := eGc
    replace eGn : I 13 2 = nI (qGn P) := eGn
    replace eHc : I 18 = qHc P := eHc
    replace eHn : I 16 2 = nI (qHn P) := eHn
    obtain ⟨⟨r0, r2⟩, hr1, h1⟩ := zwp_get (show zwp (f_X11_game a1 a2 a3 (I 54) (I 53 3) (I 56) (I 53 0) (I 57) (I 53 1) (I 55) (J 53 2) (I 74) (I 52) (I 32) (nI (qF P)) (I 34) (nI hr) (I 35) (nI pn) (I 33) (lN wl) (qDb P) (nI (qF P)) (qGc P) (nI (qGn P)) (I 14) (nI (qH P)) (qHc P) (nI (qHn P)) (I 17) (qLt P) (nI (qNl P)) (qSt P) (qWy P) (nI (qW P))) _ from c_game hP hN)
    obtain ⟨⟨k, oj, o0, o1, o2, o3, o4, o5, o6, o7, o8, o9, o10, o11⟩, hw, hk, hans, ho⟩ := zwp_get (l_game (m_ar := J 107) (Q := fun x => x = r2) (zwp_of hr1 ⟨h1, rfl⟩))
    obtain ⟨⟨b, s0, s1, s2, s3⟩, hs, hb, hthr, hrw⟩ := zwp_get (show zwp (f_X12_game a1 a2 a3 (I 80) (qDb P) (-1) (nI (qF P)) (I 75 7) (I 75 8) (I 79) (nI (qNl P)) (I 94) (I 91) (nI (qH P)) (I 75 0) (I 93) (I 76) (I 77) (nI (qW P))) _ from m_game hP hm hN)
    have hw2 : f_L_game a1 a2 a3 1 (J 107) (I 54) (I 53 3) (I 56) (I 53 0) (I 57) (I 53 1) (I 55) (J 53 2) (I 74) (I 52) (I 32) (I 31 3) (I 34) (I 31 0) (I 35) (I 31 1) (I 33) (J 31 2) (I 7 12) (I 7 3) (I 15) (I 13 2) (I 14) (I 7 1) (I 18) (I 16 2) (I 17) (I 12) (I 7 9) (I 9) (I 10) (I 7 0) = some (k, oj, o0, o1, o2, o3, o4, o5, o6, o7, o8, o9, o10, o11) := by rw [eNf, eHr, ePn, eWl, eDb, eFg, eGc, eGn, eH, eHc, eHn, eLt, eNl, eSt, eWy, eW]; exact hw
    have hs2 : f_X12_game a1 a2 a3 (I 80) (I 75 6) (I 75 53) (I 75 3) (I 75 7) (I 75 8) (I 79) (I 75 5) (I 94) (I 91) (I 75 2) (I 75 0) (I 93) (I 76) (I 77) (I 75 1) = some (b, s0, s1, s2, s3) := by rw [mDb, eDa, mF, mNl, mH, mW]; exact hs
    refine ok_L_game_0_107_p (by decide) (zwp_of hw2 ?_)
    refine ⟨k, 7, 19, _, _, rfl, rfl, ?_⟩
    refine ok_X12_game_75 (by decide) (zwp_of hs2 ?_)
    refine ⟨b, _, _, rfl, rfl, hthr.trans hk.symm, fun h => (hans (hk.symm.trans h)).trans (congrArg Int32.toInt64 hb.symm), ?_⟩
    exact ⟨Or.inl ⟨rfl, rfl⟩, P, hr, pn, wl, nx, na, nn, ns, sz, hP, hm, hN.fr hP hrw, hD, hRf, hNo, hS, hIm, hT, eT1, eT2, eF, eDa, eW, eH, eFg, eSt, eWy, eNs, eNl, eLt, eDb, eGc, eGn, eHc, eHn, eHr, ePn, eWl, eNf, eNx, eNa, eNn, mW, mH, mF, mNs, mNl, mDb, mNa, mNn⟩
  · replace hS : SeatR P ns (I 23) (I 78) := hS
    replace eW : I 19 0 = nI (qW P) := eW
    replace eH : I 19 1 = nI (qH P) := eH
    replace eFg : I 19 3 = nI (qF P) := eFg
    replace eSt : I 21 = qSt P := eSt
    replace eWy : I 22 = qWy P := eWy
    replace eNs : I 19 7 = nI ns := eNs
    replace eNl : I 19 9 = nI (qNl P) := eNl
    replace eLt : I 24 = qLt P := eLt
    replace eDb : I 19 12 = qDb P := eDb
    replace eGc : I 27 = qGc P := eGc
    replace eGn : I 25 2 = nI (qGn P) := eGn
    replace eHc : I 30 = qHc P := eHc
    replace eHn : I 28 2 = nI (qHn P) := eHn
    obtain ⟨⟨r0, r2⟩, hr1, h1⟩ := zwp_get (show zwp (f_X11_game a1 a2 a3 (I 54) (I 53 3) (I 56) (I 53 0) (I 57) (I 53 1) (I 55) (J 53 2) (I 74) (I 52) (I 32) (nI (qF P)) (I 34) (nI hr) (I 35) (nI pn) (I 33) (lN wl) (qDb P) (nI (qF P)) (qGc P) (nI (qGn P)) (I 26) (nI (qH P)) (qHc P) (nI (qHn P)) (I 29) (qLt P) (nI (qNl P)) (qSt P) (qWy P) (nI (qW P))) _ from c_game hP hN)
    obtain ⟨⟨k, oj, o0, o1, o2, o3, o4, o5, o6, o7, o8, o9, o10, o11⟩, hw, hk, hans, ho⟩ := zwp_get (l_game (m_ar := J 107) (Q := fun x => x = r2) (zwp_of hr1 ⟨h1, rfl⟩))
    obtain ⟨⟨b, s0, s1, s2, s3⟩, hs, hb, hthr, hrw⟩ := zwp_get (show zwp (f_X12_game a1 a2 a3 (I 80) (qDb P) (-1) (nI (qF P)) (I 75 7) (I 75 8) (I 79) (nI (qNl P)) (I 94) (I 91) (nI (qH P)) (I 75 0) (I 93) (I 76) (I 77) (nI (qW P))) _ from m_game hP hm hN)
    have hw2 : f_L_game a1 a2 a3 1 (J 107) (I 54) (I 53 3) (I 56) (I 53 0) (I 57) (I 53 1) (I 55) (J 53 2) (I 74) (I 52) (I 32) (I 31 3) (I 34) (I 31 0) (I 35) (I 31 1) (I 33) (J 31 2) (I 19 12) (I 19 3) (I 27) (I 25 2) (I 26) (I 19 1) (I 30) (I 28 2) (I 29) (I 24) (I 19 9) (I 21) (I 22) (I 19 0) = some (k, oj, o0, o1, o2, o3, o4, o5, o6, o7, o8, o9, o10, o11) := by rw [eNf, eHr, ePn, eWl, eDb, eFg, eGc, eGn, eH, eHc, eHn, eLt, eNl, eSt, eWy, eW]; exact hw
    have hs2 : f_X12_game a1 a2 a3 (I 80) (I 75 6) (I 75 53) (I 75 3) (I 75 7) (I 75 8) (I 79) (I 75 5) (I 94) (I 91) (I 75 2) (I 75 0) (I 93) (I 76) (I 77) (I 75 1) = some (b, s0, s1, s2, s3) := by rw [mDb, eDa, mF, mNl, mH, mW]; exact hs
    refine ok_L_game_0_107_q (by decide) (zwp_of hw2 ?_)
    refine ⟨k, 19, 7, _, _, rfl, rfl, ?_⟩
    refine ok_X12_game_75 (by decide) (zwp_of hs2 ?_)
    refine ⟨b, _, _, rfl, rfl, hthr.trans hk.symm, fun h => (hans (hk.symm.trans h)).trans (congrArg Int32.toInt64 hb.symm), ?_⟩
    exact ⟨Or.inr ⟨rfl, rfl⟩, P, hr, pn, wl, nx, na, nn, ns, sz, hP, hm, hN.fr hP hrw, hD, hRf, hNo, hS, hIm, hT, eT1, eT2, eF, eDa, eW, eH, eFg, eSt, eWy, eNs, eNl, eLt, eDb, eGc, eGn, eHc, eHn, eHr, ePn, eWl, eNf, eNx, eNa, eNn, mW, mH, mF, mNs, mNl, mDb, mNa, mNn⟩
theorem op_years {p q : Nat} {I : pI} {J : pJ} (H : Inv p q I J) (a1 a2 a3 : Int32) : OpH 295 262 [.int a1, .int a2, .int a3] p q I J := by
  obtain ⟨hpq, P, hr, pn, wl, nx, na, nn, ns, sz, hP, hm, hN, hD, hRf, hNo, hS, hIm, hT, eT1, eT2, eF, eDa, eW, eH, eFg, eSt, eWy, eNs, eNl, eLt, eDb, eGc, eGn, eHc, eHn, eHr, ePn, eWl, eNf, eNx, eNa, eNn, mW, mH, mF, mNs, mNl, mDb, mNa, mNn⟩ := H
  rcases hpq with ⟨rfl, rfl⟩ | ⟨rfl, rfl⟩
  · replace hS : SeatR P ns (I 11) (I 78) := hS
    replace eW : I 7 0 = nI (qW P) := eW
    replace eH : I 7 1 = nI (qH P) := eH
    replace eFg : I 7 3 = nI (qF P) := eFg
    replace eSt : I 9 = qSt P := eSt
    replace eWy : I 10 = qWy P := eWy
    replace eNs : I 7 7 = nI ns := eNs
    replace eNl : I 7 9 = nI (qNl P) := eNl
    replace eLt : I 12 = qLt P := eLt
    replace eDb : I 7 12 = qDb P := eDb
    replace eGc : I 15 = qGc P := eGc
    replace eGn : I 13 2 = nI (qGn P) := eGn
    replace eHc : I 18 = qHc P := eHc
    replace eHn : I 16 2 = nI (qHn P) := eHn
    obtain ⟨⟨r0, r2⟩, hr1, h1⟩ := zwp_get (show zwp (f_X11_years a1 a2 a3 (I 54) (I 53 3) (I 56) (I 53 0) (I 57) (I 53 1) (I 55) (J 53 2) (I 52) (I 32) (nI (qF P)) (I 34) (nI hr) (I 35) (nI pn) (I 33) (lN wl) (qDb P) (nI (qF P)) (qGc P) (nI (qGn P)) (I 14) (nI (qH P)) (qHc P) (nI (qHn P)) (I 17) (qLt P) (nI (qNl P)) (qSt P) (qWy P) (nI (qW P)) (I 0 19)) _ from c_years hP hN)
    obtain ⟨⟨k, oj, o0, o1, o2, o3, o4, o5, o6, o7, o8, o9, o10, o11⟩, hw, hk, hans, ho⟩ := zwp_get (l_years (m_ar := J 107) (Q := fun x => x = r2) (zwp_of hr1 ⟨h1, rfl⟩))
    obtain ⟨⟨b, s0, s1, s2, s3, s4⟩, hs, hb, hthr, hrw⟩ := zwp_get (show zwp (f_X12_years a1 a2 a3 (I 80) (qDb P) (-1) (nI (qF P)) (I 75 7) (I 75 8) (I 75 64) (I 79) (nI (qNl P)) (I 94) (I 91) (nI (qH P)) (I 75 0) (I 93) (I 76) (I 77) (nI (qW P))) _ from m_years (fcell := I 54) (fsore := I 55) (fheld := I 56) hP hm hN)
    have hw2 : f_L_years a1 a2 a3 1 (J 107) (I 54) (I 53 3) (I 56) (I 53 0) (I 57) (I 53 1) (I 55) (J 53 2) (I 52) (I 32) (I 31 3) (I 34) (I 31 0) (I 35) (I 31 1) (I 33) (J 31 2) (I 7 12) (I 7 3) (I 15) (I 13 2) (I 14) (I 7 1) (I 18) (I 16 2) (I 17) (I 12) (I 7 9) (I 9) (I 10) (I 7 0) (I 0 19) = some (k, oj, o0, o1, o2, o3, o4, o5, o6, o7, o8, o9, o10, o11) := by rw [eNf, eHr, ePn, eWl, eDb, eFg, eGc, eGn, eH, eHc, eHn, eLt, eNl, eSt, eWy, eW]; exact hw
    have hs2 : f_X12_years a1 a2 a3 (I 80) (I 75 6) (I 75 53) (I 75 3) (I 75 7) (I 75 8) (I 75 64) (I 79) (I 75 5) (I 94) (I 91) (I 75 2) (I 75 0) (I 93) (I 76) (I 77) (I 75 1) = some (b, s0, s1, s2, s3, s4) := by rw [mDb, eDa, mF, mNl, mH, mW]; exact hs
    refine ok_L_years_0_107_p (by decide) (zwp_of hw2 ?_)
    refine ⟨k, 7, 19, _, _, rfl, rfl, ?_⟩
    refine ok_X12_years_75 (by decide) (zwp_of hs2 ?_)
    refine ⟨b, _, _, rfl, rfl, hthr.trans hk.symm, fun h => (hans (hk.symm.trans h)).trans (congrArg Int32.toInt64 hb.symm), ?_⟩
    exact ⟨Or.inl ⟨rfl, rfl⟩, P, hr, pn, wl, nx, na, nn, ns, sz, hP, hm, hN.fr hP hrw, hD, hRf, hNo, hS, hIm, hT, eT1, eT2, eF, eDa, eW, eH, eFg, eSt, eWy, eNs, eNl, eLt, eDb, eGc, eGn, eHc, eHn, eHr, ePn, eWl, eNf, eNx, eNa, eNn, mW, mH, mF, mNs, mNl, mDb, mNa, mNn⟩
  · replace hS : SeatR P ns (I 23) (I 78) := hS
    replace eW : I 19 0 = nI (qW P) := eW
    replace eH : I 19 1 = nI (qH P) := eH
    replace eFg : I 19 3 = nI (qF P) := eFg
    replace eSt : I 21 = qSt P := eSt
    replace eWy : I 22 = qWy P := eWy
    replace eNs : I 19 7 = nI ns := eNs
    replace eNl : I 19 9 = nI (qNl P) := eNl
    replace eLt : I 24 = qLt P := eLt
    replace eDb : I 19 12 = qDb P := eDb
    replace eGc : I 27 = qGc P := eGc
    replace eGn : I 25 2 = nI (qGn P) := eGn
    replace eHc : I 30 = qHc P := eHc
    replace eHn : I 28 2 = nI (qHn P) := eHn
    obtain ⟨⟨r0, r2⟩, hr1, h1⟩ := zwp_get (show zwp (f_X11_years a1 a2 a3 (I 54) (I 53 3) (I 56) (I 53 0) (I 57) (I 53 1) (I 55) (J 53 2) (I 52) (I 32) (nI (qF P)) (I 34) (nI hr) (I 35) (nI pn) (I 33) (lN wl) (qDb P) (nI (qF P)) (qGc P) (nI (qGn P)) (I 26) (nI (qH P)) (qHc P) (nI (qHn P)) (I 29) (qLt P) (nI (qNl P)) (qSt P) (qWy P) (nI (qW P)) (I 0 19)) _ from c_years hP hN)
    obtain ⟨⟨k, oj, o0, o1, o2, o3, o4, o5, o6, o7, o8, o9, o10, o11⟩, hw, hk, hans, ho⟩ := zwp_get (l_years (m_ar := J 107) (Q := fun x => x = r2) (zwp_of hr1 ⟨h1, rfl⟩))
    obtain ⟨⟨b, s0, s1, s2, s3, s4⟩, hs, hb, hthr, hrw⟩ := zwp_get (show zwp (f_X12_years a1 a2 a3 (I 80) (qDb P) (-1) (nI (qF P)) (I 75 7) (I 75 8) (I 75 64) (I 79) (nI (qNl P)) (I 94) (I 91) (nI (qH P)) (I 75 0) (I 93) (I 76) (I 77) (nI (qW P))) _ from m_years (fcell := I 54) (fsore := I 55) (fheld := I 56) hP hm hN)
    have hw2 : f_L_years a1 a2 a3 1 (J 107) (I 54) (I 53 3) (I 56) (I 53 0) (I 57) (I 53 1) (I 55) (J 53 2) (I 52) (I 32) (I 31 3) (I 34) (I 31 0) (I 35) (I 31 1) (I 33) (J 31 2) (I 19 12) (I 19 3) (I 27) (I 25 2) (I 26) (I 19 1) (I 30) (I 28 2) (I 29) (I 24) (I 19 9) (I 21) (I 22) (I 19 0) (I 0 19) = some (k, oj, o0, o1, o2, o3, o4, o5, o6, o7, o8, o9, o10, o11) := by rw [eNf, eHr, ePn, eWl, eDb, eFg, eGc, eGn, eH, eHc, eHn, eLt, eNl, eSt, eWy, eW]; exact hw
    have hs2 : f_X12_years a1 a2 a3 (I 80) (I 75 6) (I 75 53) (I 75 3) (I 75 7) (I 75 8) (I 75 64) (I 79) (I 75 5) (I 94) (I 91) (I 75 2) (I 75 0) (I 93) (I 76) (I 77) (I 75 1) = some (b, s0, s1, s2, s3, s4) := by rw [mDb, eDa, mF, mNl, mH, mW]; exact hs
    refine ok_L_years_0_107_q (by decide) (zwp_of hw2 ?_)
    refine ⟨k, 19, 7, _, _, rfl, rfl, ?_⟩
    refine ok_X12_years_75 (by decide) (zwp_of hs2 ?_)
    refine ⟨b, _, _, rfl, rfl, hthr.trans hk.symm, fun h => (hans (hk.symm.trans h)).trans (congrArg Int32.toInt64 hb.symm), ?_⟩
    exact ⟨Or.inr ⟨rfl, rfl⟩, P, hr, pn, wl, nx, na, nn, ns, sz, hP, hm, hN.fr hP hrw, hD, hRf, hNo, hS, hIm, hT, eT1, eT2, eF, eDa, eW, eH, eFg, eSt, eWy, eNs, eNl, eLt, eDb, eGc, eGn, eHc, eHn, eHr, ePn, eWl, eNf, eNx, eNa, eNn, mW, mH, mF, mNs, mNl, mDb, mNa, mNn⟩
theorem op_later {p q : Nat} {I : pI} {J : pJ} (H : Inv p q I J) (a1 a2 : Int32) : OpH 296 239 [.int a1, .int a2] p q I J := by
  obtain ⟨hpq, P, hr, pn, wl, nx, na, nn, ns, sz, hP, hm, hN, hD, hRf, hNo, hS, hIm, hT, eT1, eT2, eF, eDa, eW, eH, eFg, eSt, eWy, eNs, eNl, eLt, eDb, eGc, eGn, eHc, eHn, eHr, ePn, eWl, eNf, eNx, eNa, eNn, mW, mH, mF, mNs, mNl, mDb, mNa, mNn⟩ := H
  rcases hpq with ⟨rfl, rfl⟩ | ⟨rfl, rfl⟩
  · replace hS : SeatR P ns (I 11) (I 78) := hS
    replace eW : I 7 0 = nI (qW P) := eW
    replace eH : I 7 1 = nI (qH P) := eH
    replace eFg : I 7 3 = nI (qF P) := eFg
    replace eSt : I 9 = qSt P := eSt
    replace eWy : I 10 = qWy P := eWy
    replace eNs : I 7 7 = nI ns := eNs
    replace eNl : I 7 9 = nI (qNl P) := eNl
    replace eLt : I 12 = qLt P := eLt
    replace eDb : I 7 12 = qDb P := eDb
    replace eGc : I 15 = qGc P := eGc
    replace eGn : I 13 2 = nI (qGn P) := eGn
    replace eHc : I 18 = qHc P := eHc
    replace eHn : I 16 2 = nI (qHn P) := eHn
    obtain ⟨⟨r0, r2⟩, hr1, h1⟩ := zwp_get (show zwp (f_X11_later a1 a2 (I 54) (I 53 3) (I 56) (I 53 0) (I 57) (I 53 1) (I 55) (J 53 2) (I 52) (I 32) (nI (qF P)) (I 34) (nI hr) (I 35) (nI pn) (I 33) (lN wl) (qDb P) (nI (qF P)) (qGc P) (nI (qGn P)) (I 14) (nI (qH P)) (qHc P) (nI (qHn P)) (I 17) (qLt P) (nI (qNl P)) (qSt P) (qWy P) (nI (qW P)) (I 72)) _ from c_later hP hN)
    obtain ⟨⟨k, oj, o0, o1, o2, o3, o4, o5, o6, o7, o8, o9, o10, o11⟩, hw, hk, hans, ho⟩ := zwp_get (l_later (m_ar := J 107) (Q := fun x => x = r2) (zwp_of hr1 ⟨h1, rfl⟩))
    obtain ⟨⟨b, s0, s1, s2, s3, s4⟩, hs, hb, hthr, hrw⟩ := zwp_get (show zwp (f_X12_later a1 a2 (I 80) (qDb P) (-1) (nI (qF P)) (I 75 7) (I 75 8) (I 79) (nI (qNl P)) (I 97) (I 94) (I 91) (nI (qH P)) (I 75 0) (I 93) (I 76) (I 77) (nI (qW P))) _ from m_later (fcell := I 54) (fsore := I 55) (fheld := I 56) hP hm hN)
    have hw2 : f_L_later a1 a2 1 (J 107) (I 54) (I 53 3) (I 56) (I 53 0) (I 57) (I 53 1) (I 55) (J 53 2) (I 52) (I 32) (I 31 3) (I 34) (I 31 0) (I 35) (I 31 1) (I 33) (J 31 2) (I 7 12) (I 7 3) (I 15) (I 13 2) (I 14) (I 7 1) (I 18) (I 16 2) (I 17) (I 12) (I 7 9) (I 9) (I 10) (I 7 0) (I 72) = some (k, oj, o0, o1, o2, o3, o4, o5, o6, o7, o8, o9, o10, o11) := by rw [eNf, eHr, ePn, eWl, eDb, eFg, eGc, eGn, eH, eHc, eHn, eLt, eNl, eSt, eWy, eW]; exact hw
    have hs2 : f_X12_later a1 a2 (I 80) (I 75 6) (I 75 53) (I 75 3) (I 75 7) (I 75 8) (I 79) (I 75 5) (I 97) (I 94) (I 91) (I 75 2) (I 75 0) (I 93) (I 76) (I 77) (I 75 1) = some (b, s0, s1, s2, s3, s4) := by rw [mDb, eDa, mF, mNl, mH, mW]; exact hs
    refine ok_L_later_0_107_p (by decide) (zwp_of hw2 ?_)
    refine ⟨k, 7, 19, _, _, rfl, rfl, ?_⟩
    refine ok_X12_later_75 (by decide) (zwp_of hs2 ?_)
    refine ⟨b, _, _, rfl, rfl, hthr.trans hk.symm, fun h => (hans (hk.symm.trans h)).trans (congrArg Int32.toInt64 hb.symm), ?_⟩
    exact ⟨Or.inl ⟨rfl, rfl⟩, P, hr, pn, wl, nx, na, nn, ns, sz, hP, hm, hN.fr hP hrw, hD, hRf, hNo, hS, hIm, hT, eT1, eT2, eF, eDa, eW, eH, eFg, eSt, eWy, eNs, eNl, eLt, eDb, eGc, eGn, eHc, eHn, eHr, ePn, eWl, eNf, eNx, eNa, eNn, mW, mH, mF, mNs, mNl, mDb, mNa, mNn⟩
  · replace hS : SeatR P ns (I 23) (I 78) := hS
    replace eW : I 19 0 = nI (qW P) := eW
    replace eH : I 19 1 = nI (qH P) := eH
    replace eFg : I 19 3 = nI (qF P) := eFg
    replace eSt : I 21 = qSt P := eSt
    replace eWy : I 22 = qWy P := eWy
    replace eNs : I 19 7 = nI ns := eNs
    replace eNl : I 19 9 = nI (qNl P) := eNl
    replace eLt : I 24 = qLt P := eLt
    replace eDb : I 19 12 = qDb P := eDb
    replace eGc : I 27 = qGc P := eGc
    replace eGn : I 25 2 = nI (qGn P) := eGn
    replace eHc : I 30 = qHc P := eHc
    replace eHn : I 28 2 = nI (qHn P) := eHn
    obtain ⟨⟨r0, r2⟩, hr1, h1⟩ := zwp_get (show zwp (f_X11_later a1 a2 (I 54) (I 53 3) (I 56) (I 53 0) (I 57) (I 53 1) (I 55) (J 53 2) (I 52) (I 32) (nI (qF P)) (I 34) (nI hr) (I 35) (nI pn) (I 33) (lN wl) (qDb P) (nI (qF P)) (qGc P) (nI (qGn P)) (I 26) (nI (qH P)) (qHc P) (nI (qHn P)) (I 29) (qLt P) (nI (qNl P)) (qSt P) (qWy P) (nI (qW P)) (I 72)) _ from c_later hP hN)
    obtain ⟨⟨k, oj, o0, o1, o2, o3, o4, o5, o6, o7, o8, o9, o10, o11⟩, hw, hk, hans, ho⟩ := zwp_get (l_later (m_ar := J 107) (Q := fun x => x = r2) (zwp_of hr1 ⟨h1, rfl⟩))
    obtain ⟨⟨b, s0, s1, s2, s3, s4⟩, hs, hb, hthr, hrw⟩ := zwp_get (show zwp (f_X12_later a1 a2 (I 80) (qDb P) (-1) (nI (qF P)) (I 75 7) (I 75 8) (I 79) (nI (qNl P)) (I 97) (I 94) (I 91) (nI (qH P)) (I 75 0) (I 93) (I 76) (I 77) (nI (qW P))) _ from m_later (fcell := I 54) (fsore := I 55) (fheld := I 56) hP hm hN)
    have hw2 : f_L_later a1 a2 1 (J 107) (I 54) (I 53 3) (I 56) (I 53 0) (I 57) (I 53 1) (I 55) (J 53 2) (I 52) (I 32) (I 31 3) (I 34) (I 31 0) (I 35) (I 31 1) (I 33) (J 31 2) (I 19 12) (I 19 3) (I 27) (I 25 2) (I 26) (I 19 1) (I 30) (I 28 2) (I 29) (I 24) (I 19 9) (I 21) (I 22) (I 19 0) (I 72) = some (k, oj, o0, o1, o2, o3, o4, o5, o6, o7, o8, o9, o10, o11) := by rw [eNf, eHr, ePn, eWl, eDb, eFg, eGc, eGn, eH, eHc, eHn, eLt, eNl, eSt, eWy, eW]; exact hw
    have hs2 : f_X12_later a1 a2 (I 80) (I 75 6) (I 75 53) (I 75 3) (I 75 7) (I 75 8) (I 79) (I 75 5) (I 97) (I 94) (I 91) (I 75 2) (I 75 0) (I 93) (I 76) (I 77) (I 75 1) = some (b, s0, s1, s2, s3, s4) := by rw [mDb, eDa, mF, mNl, mH, mW]; exact hs
    refine ok_L_later_0_107_q (by decide) (zwp_of hw2 ?_)
    refine ⟨k, 19, 7, _, _, rfl, rfl, ?_⟩
    refine ok_X12_later_75 (by decide) (zwp_of hs2 ?_)
    refine ⟨b, _, _, rfl, rfl, hthr.trans hk.symm, fun h => (hans (hk.symm.trans h)).trans (congrArg Int32.toInt64 hb.symm), ?_⟩
    exact ⟨Or.inr ⟨rfl, rfl⟩, P, hr, pn, wl, nx, na, nn, ns, sz, hP, hm, hN.fr hP hrw, hD, hRf, hNo, hS, hIm, hT, eT1, eT2, eF, eDa, eW, eH, eFg, eSt, eWy, eNs, eNl, eLt, eDb, eGc, eGn, eHc, eHn, eHr, ePn, eWl, eNf, eNx, eNa, eNn, mW, mH, mF, mNs, mNl, mDb, mNa, mNn⟩
theorem op_together {p q : Nat} {I : pI} {J : pJ} (H : Inv p q I J) (a1 a2 a3 : Int32) : OpH 297 240 [.int a1, .int a2, .int a3] p q I J := by
  obtain ⟨hpq, P, hr, pn, wl, nx, na, nn, ns, sz, hP, hm, hN, hD, hRf, hNo, hS, hIm, hT, eT1, eT2, eF, eDa, eW, eH, eFg, eSt, eWy, eNs, eNl, eLt, eDb, eGc, eGn, eHc, eHn, eHr, ePn, eWl, eNf, eNx, eNa, eNn, mW, mH, mF, mNs, mNl, mDb, mNa, mNn⟩ := H
  rcases hpq with ⟨rfl, rfl⟩ | ⟨rfl, rfl⟩
  · replace hS : SeatR P ns (I 11) (I 78) := hS
    replace eW : I 7 0 = nI (qW P) := eW
    replace eH : I 7 1 = nI (qH P) := eH
    replace eFg : I 7 3 = nI (qF P) := eFg
    replace eSt : I 9 = qSt P := eSt
    replace eWy : I 10 = qWy P := eWy
    replace eNs : I 7 7 = nI ns := eNs
    replace eNl : I 7 9 = nI (qNl P) := eNl
    replace eLt : I 12 = qLt P := eLt
    replace eDb : I 7 12 = qDb P := eDb
    replace eGc : I 15 = qGc P := eGc
    replace eGn : I 13 2 = nI (qGn P) := eGn
    replace eHc : I 18 = qHc P := eHc
    replace eHn : I 16 2 = nI (qHn P) := eHn
    obtain ⟨⟨r0, r2⟩, hr1, h1⟩ := zwp_get (show zwp (f_X11_together a1 a2 a3 (I 54) (I 53 3) (I 56) (I 53 0) (I 57) (I 53 1) (I 55) (J 53 2) (I 52) (I 32) (nI (qF P)) (I 34) (nI hr) (I 35) (nI pn) (I 33) (lN wl) (qDb P) (nI (qF P)) (qGc P) (nI (qGn P)) (I 14) (nI (qH P)) (qHc P) (nI (qHn P)) (I 17) (qLt P) (nI (qNl P)) (qSt P) (qWy P) (nI (qW P))) _ from c_together hP hN)
    obtain ⟨⟨k, oj, o0, o1, o2, o3, o4, o5, o6, o7, o8, o9, o10⟩, hw, hk, hans, ho⟩ := zwp_get (l_together (m_ar := J 107) (Q := fun x => x = r2) (zwp_of hr1 ⟨h1, rfl⟩))
    obtain ⟨⟨b, s0, s1, s2, s3⟩, hs, hb, hthr, hrw⟩ := zwp_get (show zwp (f_X12_together a1 a2 a3 (I 80) (qDb P) (-1) (nI (qF P)) (I 75 7) (I 75 8) (I 79) (nI (qNl P)) (I 94) (I 91) (nI (qH P)) (I 75 0) (I 93) (I 76) (I 77) (nI (qW P))) _ from m_together (fcell := I 54) (fsore := I 55) (fheld := I 56) hP hm hN)
    have hw2 : f_L_together a1 a2 a3 1 (J 107) (I 54) (I 53 3) (I 56) (I 53 0) (I 57) (I 53 1) (I 55) (J 53 2) (I 52) (I 32) (I 31 3) (I 34) (I 31 0) (I 35) (I 31 1) (I 33) (J 31 2) (I 7 12) (I 7 3) (I 15) (I 13 2) (I 14) (I 7 1) (I 18) (I 16 2) (I 17) (I 12) (I 7 9) (I 9) (I 10) (I 7 0) = some (k, oj, o0, o1, o2, o3, o4, o5, o6, o7, o8, o9, o10) := by rw [eNf, eHr, ePn, eWl, eDb, eFg, eGc, eGn, eH, eHc, eHn, eLt, eNl, eSt, eWy, eW]; exact hw
    have hs2 : f_X12_together a1 a2 a3 (I 80) (I 75 6) (I 75 53) (I 75 3) (I 75 7) (I 75 8) (I 79) (I 75 5) (I 94) (I 91) (I 75 2) (I 75 0) (I 93) (I 76) (I 77) (I 75 1) = some (b, s0, s1, s2, s3) := by rw [mDb, eDa, mF, mNl, mH, mW]; exact hs
    refine ok_L_together_0_107_p (by decide) (zwp_of hw2 ?_)
    refine ⟨k, 7, 19, _, _, rfl, rfl, ?_⟩
    refine ok_X12_together_75 (by decide) (zwp_of hs2 ?_)
    refine ⟨b, _, _, rfl, rfl, hthr.trans hk.symm, fun h => (hans (hk.symm.trans h)).trans (congrArg Int32.toInt64 hb.symm), ?_⟩
    exact ⟨Or.inl ⟨rfl, rfl⟩, P, hr, pn, wl, nx, na, nn, ns, sz, hP, hm, hN.fr hP hrw, hD, hRf, hNo, hS, hIm, hT, eT1, eT2, eF, eDa, eW, eH, eFg, eSt, eWy, eNs, eNl, eLt, eDb, eGc, eGn, eHc, eHn, eHr, ePn, eWl, eNf, eNx, eNa, eNn, mW, mH, mF, mNs, mNl, mDb, mNa, mNn⟩
  · replace hS : SeatR P ns (I 23) (I 78) := hS
    replace eW : I 19 0 = nI (qW P) := eW
    replace eH : I 19 1 = nI (qH P) := eH
    replace eFg : I 19 3 = nI (qF P) := eFg
    replace eSt : I 21 = qSt P := eSt
    replace eWy : I 22 = qWy P := eWy
    replace eNs : I 19 7 = nI ns := eNs
    replace eNl : I 19 9 = nI (qNl P) := eNl
    replace eLt : I 24 = qLt P := eLt
    replace eDb : I 19 12 = qDb P := eDb
    replace eGc : I 27 = qGc P := eGc
    replace eGn : I 25 2 = nI (qGn P) := eGn
    replace eHc : I 30 = qHc P := eHc
    replace eHn : I 28 2 = nI (qHn P) := eHn
    obtain ⟨⟨r0, r2⟩, hr1, h1⟩ := zwp_get (show zwp (f_X11_together a1 a2 a3 (I 54) (I 53 3) (I 56) (I 53 0) (I 57) (I 53 1) (I 55) (J 53 2) (I 52) (I 32) (nI (qF P)) (I 34) (nI hr) (I 35) (nI pn) (I 33) (lN wl) (qDb P) (nI (qF P)) (qGc P) (nI (qGn P)) (I 26) (nI (qH P)) (qHc P) (nI (qHn P)) (I 29) (qLt P) (nI (qNl P)) (qSt P) (qWy P) (nI (qW P))) _ from c_together hP hN)
    obtain ⟨⟨k, oj, o0, o1, o2, o3, o4, o5, o6, o7, o8, o9, o10⟩, hw, hk, hans, ho⟩ := zwp_get (l_together (m_ar := J 107) (Q := fun x => x = r2) (zwp_of hr1 ⟨h1, rfl⟩))
    obtain ⟨⟨b, s0, s1, s2, s3⟩, hs, hb, hthr, hrw⟩ := zwp_get (show zwp (f_X12_together a1 a2 a3 (I 80) (qDb P) (-1) (nI (qF P)) (I 75 7) (I 75 8) (I 79) (nI (qNl P)) (I 94) (I 91) (nI (qH P)) (I 75 0) (I 93) (I 76) (I 77) (nI (qW P))) _ from m_together (fcell := I 54) (fsore := I 55) (fheld := I 56) hP hm hN)
    have hw2 : f_L_together a1 a2 a3 1 (J 107) (I 54) (I 53 3) (I 56) (I 53 0) (I 57) (I 53 1) (I 55) (J 53 2) (I 52) (I 32) (I 31 3) (I 34) (I 31 0) (I 35) (I 31 1) (I 33) (J 31 2) (I 19 12) (I 19 3) (I 27) (I 25 2) (I 26) (I 19 1) (I 30) (I 28 2) (I 29) (I 24) (I 19 9) (I 21) (I 22) (I 19 0) = some (k, oj, o0, o1, o2, o3, o4, o5, o6, o7, o8, o9, o10) := by rw [eNf, eHr, ePn, eWl, eDb, eFg, eGc, eGn, eH, eHc, eHn, eLt, eNl, eSt, eWy, eW]; exact hw
    have hs2 : f_X12_together a1 a2 a3 (I 80) (I 75 6) (I 75 53) (I 75 3) (I 75 7) (I 75 8) (I 79) (I 75 5) (I 94) (I 91) (I 75 2) (I 75 0) (I 93) (I 76) (I 77) (I 75 1) = some (b, s0, s1, s2, s3) := by rw [mDb, eDa, mF, mNl, mH, mW]; exact hs
    refine ok_L_together_0_107_q (by decide) (zwp_of hw2 ?_)
    refine ⟨k, 19, 7, _, _, rfl, rfl, ?_⟩
    refine ok_X12_together_75 (by decide) (zwp_of hs2 ?_)
    refine ⟨b, _, _, rfl, rfl, hthr.trans hk.symm, fun h => (hans (hk.symm.trans h)).trans (congrArg Int32.toInt64 hb.symm), ?_⟩
    exact ⟨Or.inr ⟨rfl, rfl⟩, P, hr, pn, wl, nx, na, nn, ns, sz, hP, hm, hN.fr hP hrw, hD, hRf, hNo, hS, hIm, hT, eT1, eT2, eF, eDa, eW, eH, eFg, eSt, eWy, eNs, eNl, eLt, eDb, eGc, eGn, eHc, eHn, eHr, ePn, eWl, eNf, eNx, eNa, eNn, mW, mH, mF, mNs, mNl, mDb, mNa, mNn⟩
theorem op_quiet {p q : Nat} {I : pI} {J : pJ} (H : Inv p q I J) (a1 a2 : Int32) : OpH 298 241 [.int a1, .int a2] p q I J := by
  obtain ⟨hpq, P, hr, pn, wl, nx, na, nn, ns, sz, hP, hm, hN, hD, hRf, hNo, hS, hIm, hT, eT1, eT2, eF, eDa, eW, eH, eFg, eSt, eWy, eNs, eNl, eLt, eDb, eGc, eGn, eHc, eHn, eHr, ePn, eWl, eNf, eNx, eNa, eNn, mW, mH, mF, mNs, mNl, mDb, mNa, mNn⟩ := H
  rcases hpq with ⟨rfl, rfl⟩ | ⟨rfl, rfl⟩
  · replace hS : SeatR P ns (I 11) (I 78) := hS
    replace eW : I 7 0 = nI (qW P) := eW
    replace eH : I 7 1 = nI (qH P) := eH
    replace eFg : I 7 3 = nI (qF P) := eFg
    replace eSt : I 9 = qSt P := eSt
    replace eWy : I 10 = qWy P := eWy
    replace eNs : I 7 7 = nI ns := eNs
    replace eNl : I 7 9 = nI (qNl P) := eNl
    replace eLt : I 12 = qLt P := eLt
    replace eDb : I 7 12 = qDb P := eDb
    replace eGc : I 15 = qGc P := eGc
    replace eGn : I 13 2 = nI (qGn P) := eGn
    replace eHc : I 18 = qHc P := eHc
    replace eHn : I 16 2 = nI (qHn P) := eHn
    obtain ⟨⟨r0, r2⟩, hr1, h1⟩ := zwp_get (show zwp (f_X11_quiet a1 a2 (I 54) (I 53 3) (I 56) (I 53 0) (I 57) (I 53 1) (I 55) (J 53 2) (I 52) (I 32) (nI (qF P)) (I 34) (nI hr) (I 35) (nI pn) (I 33) (lN wl) (qDb P) (nI (qF P)) (qGc P) (nI (qGn P)) (I 14) (nI (qH P)) (qHc P) (nI (qHn P)) (I 17) (qLt P) (nI (qNl P)) (qSt P) (qWy P) (nI (qW P))) _ from c_quiet hP hN)
    obtain ⟨⟨k, oj, o0, o1, o2, o3, o4, o5, o6, o7, o8, o9, o10⟩, hw, hk, hans, ho⟩ := zwp_get (l_quiet (m_ar := J 107) (Q := fun x => x = r2) (zwp_of hr1 ⟨h1, rfl⟩))
    obtain ⟨⟨b, s0, s1, s2, s3⟩, hs, hb, hthr, hrw⟩ := zwp_get (show zwp (f_X12_quiet a1 a2 (I 80) (qDb P) (-1) (nI (qF P)) (I 75 7) (I 75 8) (I 79) (nI (qNl P)) (I 94) (I 91) (nI (qH P)) (I 75 0) (I 93) (I 76) (I 77) (nI (qW P))) _ from m_quiet (fcell := I 54) (fsore := I 55) (fheld := I 56) hP hm hN)
    have hw2 : f_L_quiet a1 a2 1 (J 107) (I 54) (I 53 3) (I 56) (I 53 0) (I 57) (I 53 1) (I 55) (J 53 2) (I 52) (I 32) (I 31 3) (I 34) (I 31 0) (I 35) (I 31 1) (I 33) (J 31 2) (I 7 12) (I 7 3) (I 15) (I 13 2) (I 14) (I 7 1) (I 18) (I 16 2) (I 17) (I 12) (I 7 9) (I 9) (I 10) (I 7 0) = some (k, oj, o0, o1, o2, o3, o4, o5, o6, o7, o8, o9, o10) := by rw [eNf, eHr, ePn, eWl, eDb, eFg, eGc, eGn, eH, eHc, eHn, eLt, eNl, eSt, eWy, eW]; exact hw
    have hs2 : f_X12_quiet a1 a2 (I 80) (I 75 6) (I 75 53) (I 75 3) (I 75 7) (I 75 8) (I 79) (I 75 5) (I 94) (I 91) (I 75 2) (I 75 0) (I 93) (I 76) (I 77) (I 75 1) = some (b, s0, s1, s2, s3) := by rw [mDb, eDa, mF, mNl, mH, mW]; exact hs
    refine ok_L_quiet_0_107_p (by decide) (zwp_of hw2 ?_)
    refine ⟨k, 7, 19, _, _, rfl, rfl, ?_⟩
    refine ok_X12_quiet_75 (by decide) (zwp_of hs2 ?_)
    refine ⟨b, _, _, rfl, rfl, hthr.trans hk.symm, fun h => (hans (hk.symm.trans h)).trans (congrArg Int32.toInt64 hb.symm), ?_⟩
    exact ⟨Or.inl ⟨rfl, rfl⟩, P, hr, pn, wl, nx, na, nn, ns, sz, hP, hm, hN.fr hP hrw, hD, hRf, hNo, hS, hIm, hT, eT1, eT2, eF, eDa, eW, eH, eFg, eSt, eWy, eNs, eNl, eLt, eDb, eGc, eGn, eHc, eHn, eHr, ePn, eWl, eNf, eNx, eNa, eNn, mW, mH, mF, mNs, mNl, mDb, mNa, mNn⟩
  · replace hS : SeatR P ns (I 23) (I 78) := hS
    replace eW : I 19 0 = nI (qW P) := eW
    replace eH : I 19 1 = nI (qH P) := eH
    replace eFg : I 19 3 = nI (qF P) := eFg
    replace eSt : I 21 = qSt P := eSt
    replace eWy : I 22 = qWy P := eWy
    replace eNs : I 19 7 = nI ns := eNs
    replace eNl : I 19 9 = nI (qNl P) := eNl
    replace eLt : I 24 = qLt P := eLt
    replace eDb : I 19 12 = qDb P := eDb
    replace eGc : I 27 = qGc P := eGc
    replace eGn : I 25 2 = nI (qGn P) := eGn
    replace eHc : I 30 = qHc P := eHc
    replace eHn : I 28 2 = nI (qHn P) := eHn
    obtain ⟨⟨r0, r2⟩, hr1, h1⟩ := zwp_get (show zwp (f_X11_quiet a1 a2 (I 54) (I 53 3) (I 56) (I 53 0) (I 57) (I 53 1) (I 55) (J 53 2) (I 52) (I 32) (nI (qF P)) (I 34) (nI hr) (I 35) (nI pn) (I 33) (lN wl) (qDb P) (nI (qF P)) (qGc P) (nI (qGn P)) (I 26) (nI (qH P)) (qHc P) (nI (qHn P)) (I 29) (qLt P) (nI (qNl P)) (qSt P) (qWy P) (nI (qW P))) _ from c_quiet hP hN)
    obtain ⟨⟨k, oj, o0, o1, o2, o3, o4, o5, o6, o7, o8, o9, o10⟩, hw, hk, hans, ho⟩ := zwp_get (l_quiet (m_ar := J 107) (Q := fun x => x = r2) (zwp_of hr1 ⟨h1, rfl⟩))
    obtain ⟨⟨b, s0, s1, s2, s3⟩, hs, hb, hthr, hrw⟩ := zwp_get (show zwp (f_X12_quiet a1 a2 (I 80) (qDb P) (-1) (nI (qF P)) (I 75 7) (I 75 8) (I 79) (nI (qNl P)) (I 94) (I 91) (nI (qH P)) (I 75 0) (I 93) (I 76) (I 77) (nI (qW P))) _ from m_quiet (fcell := I 54) (fsore := I 55) (fheld := I 56) hP hm hN)
    have hw2 : f_L_quiet a1 a2 1 (J 107) (I 54) (I 53 3) (I 56) (I 53 0) (I 57) (I 53 1) (I 55) (J 53 2) (I 52) (I 32) (I 31 3) (I 34) (I 31 0) (I 35) (I 31 1) (I 33) (J 31 2) (I 19 12) (I 19 3) (I 27) (I 25 2) (I 26) (I 19 1) (I 30) (I 28 2) (I 29) (I 24) (I 19 9) (I 21) (I 22) (I 19 0) = some (k, oj, o0, o1, o2, o3, o4, o5, o6, o7, o8, o9, o10) := by rw [eNf, eHr, ePn, eWl, eDb, eFg, eGc, eGn, eH, eHc, eHn, eLt, eNl, eSt, eWy, eW]; exact hw
    have hs2 : f_X12_quiet a1 a2 (I 80) (I 75 6) (I 75 53) (I 75 3) (I 75 7) (I 75 8) (I 79) (I 75 5) (I 94) (I 91) (I 75 2) (I 75 0) (I 93) (I 76) (I 77) (I 75 1) = some (b, s0, s1, s2, s3) := by rw [mDb, eDa, mF, mNl, mH, mW]; exact hs
    refine ok_L_quiet_0_107_q (by decide) (zwp_of hw2 ?_)
    refine ⟨k, 19, 7, _, _, rfl, rfl, ?_⟩
    refine ok_X12_quiet_75 (by decide) (zwp_of hs2 ?_)
    refine ⟨b, _, _, rfl, rfl, hthr.trans hk.symm, fun h => (hans (hk.symm.trans h)).trans (congrArg Int32.toInt64 hb.symm), ?_⟩
    exact ⟨Or.inr ⟨rfl, rfl⟩, P, hr, pn, wl, nx, na, nn, ns, sz, hP, hm, hN.fr hP hrw, hD, hRf, hNo, hS, hIm, hT, eT1, eT2, eF, eDa, eW, eH, eFg, eSt, eWy, eNs, eNl, eLt, eDb, eGc, eGn, eHc, eHn, eHr, ePn, eWl, eNf, eNx, eNa, eNn, mW, mH, mF, mNs, mNl, mDb, mNa, mNn⟩
theorem op_gone {p q : Nat} {I : pI} {J : pJ} (H : Inv p q I J) (a1 a2 : Int32) : OpH 299 242 [.int a1, .int a2] p q I J := by
  obtain ⟨hpq, P, hr, pn, wl, nx, na, nn, ns, sz, hP, hm, hN, hD, hRf, hNo, hS, hIm, hT, eT1, eT2, eF, eDa, eW, eH, eFg, eSt, eWy, eNs, eNl, eLt, eDb, eGc, eGn, eHc, eHn, eHr, ePn, eWl, eNf, eNx, eNa, eNn, mW, mH, mF, mNs, mNl, mDb, mNa, mNn⟩ := H
  rcases hpq with ⟨rfl, rfl⟩ | ⟨rfl, rfl⟩
  · replace hS : SeatR P ns (I 11) (I 78) := hS
    replace eW : I 7 0 = nI (qW P) := eW
    replace eH : I 7 1 = nI (qH P) := eH
    replace eFg : I 7 3 = nI (qF P) := eFg
    replace eSt : I 9 = qSt P := eSt
    replace eWy : I 10 = qWy P := eWy
    replace eNs : I 7 7 = nI ns := eNs
    replace eNl : I 7 9 = nI (qNl P) := eNl
    replace eLt : I 12 = qLt P := eLt
    replace eDb : I 7 12 = qDb P := eDb
    replace eGc : I 15 = qGc P := eGc
    replace eGn : I 13 2 = nI (qGn P) := eGn
    replace eHc : I 18 = qHc P := eHc
    replace eHn : I 16 2 = nI (qHn P) := eHn
    obtain ⟨⟨r0, r2⟩, hr1, h1⟩ := zwp_get (show zwp (f_X11_gone a1 a2 (I 54) (I 53 3) (I 56) (I 53 0) (I 57) (I 53 1) (I 55) (J 53 2) (I 52) (I 32) (nI (qF P)) (I 34) (nI hr) (I 35) (nI pn) (I 33) (lN wl) (qDb P) (nI (qF P)) (qGc P) (nI (qGn P)) (I 14) (nI (qH P)) (qHc P) (nI (qHn P)) (I 17) (qLt P) (nI (qNl P)) (qSt P) (qWy P) (nI (qW P))) _ from c_gone hP hN)
    obtain ⟨⟨k, oj, o0, o1, o2, o3, o4, o5, o6, o7, o8, o9, o10⟩, hw, hk, hans, ho⟩ := zwp_get (l_gone (m_ar := J 107) (Q := fun x => x = r2) (zwp_of hr1 ⟨h1, rfl⟩))
    obtain ⟨⟨b, s0, s1, s2, s3⟩, hs, hb, hthr, hrw⟩ := zwp_get (show zwp (f_X12_gone a1 a2 (I 80) (qDb P) (-1) (nI (qF P)) (I 75 7) (I 75 8) (I 79) (nI (qNl P)) (I 94) (I 91) (nI (qH P)) (I 75 0) (I 93) (I 76) (I 77) (nI (qW P))) _ from m_gone (fcell := I 54) (fsore := I 55) (fheld := I 56) hP hm hN)
    have hw2 : f_L_gone a1 a2 1 (J 107) (I 54) (I 53 3) (I 56) (I 53 0) (I 57) (I 53 1) (I 55) (J 53 2) (I 52) (I 32) (I 31 3) (I 34) (I 31 0) (I 35) (I 31 1) (I 33) (J 31 2) (I 7 12) (I 7 3) (I 15) (I 13 2) (I 14) (I 7 1) (I 18) (I 16 2) (I 17) (I 12) (I 7 9) (I 9) (I 10) (I 7 0) = some (k, oj, o0, o1, o2, o3, o4, o5, o6, o7, o8, o9, o10) := by rw [eNf, eHr, ePn, eWl, eDb, eFg, eGc, eGn, eH, eHc, eHn, eLt, eNl, eSt, eWy, eW]; exact hw
    have hs2 : f_X12_gone a1 a2 (I 80) (I 75 6) (I 75 53) (I 75 3) (I 75 7) (I 75 8) (I 79) (I 75 5) (I 94) (I 91) (I 75 2) (I 75 0) (I 93) (I 76) (I 77) (I 75 1) = some (b, s0, s1, s2, s3) := by rw [mDb, eDa, mF, mNl, mH, mW]; exact hs
    refine ok_L_gone_0_107_p (by decide) (zwp_of hw2 ?_)
    refine ⟨k, 7, 19, _, _, rfl, rfl, ?_⟩
    refine ok_X12_gone_75 (by decide) (zwp_of hs2 ?_)
    refine ⟨b, _, _, rfl, rfl, hthr.trans hk.symm, fun h => (hans (hk.symm.trans h)).trans (congrArg Int32.toInt64 hb.symm), ?_⟩
    exact ⟨Or.inl ⟨rfl, rfl⟩, P, hr, pn, wl, nx, na, nn, ns, sz, hP, hm, hN.fr hP hrw, hD, hRf, hNo, hS, hIm, hT, eT1, eT2, eF, eDa, eW, eH, eFg, eSt, eWy, eNs, eNl, eLt, eDb, eGc, eGn, eHc, eHn, eHr, ePn, eWl, eNf, eNx, eNa, eNn, mW, mH, mF, mNs, mNl, mDb, mNa, mNn⟩
  · replace hS : SeatR P ns (I 23) (I 78) := hS
    replace eW : I 19 0 = nI (qW P) := eW
    replace eH : I 19 1 = nI (qH P) := eH
    replace eFg : I 19 3 = nI (qF P) := eFg
    replace eSt : I 21 = qSt P := eSt
    replace eWy : I 22 = qWy P := eWy
    replace eNs : I 19 7 = nI ns := eNs
    replace eNl : I 19 9 = nI (qNl P) := eNl
    replace eLt : I 24 = qLt P := eLt
    replace eDb : I 19 12 = qDb P := eDb
    replace eGc : I 27 = qGc P := eGc
    replace eGn : I 25 2 = nI (qGn P) := eGn
    replace eHc : I 30 = qHc P := eHc
    replace eHn : I 28 2 = nI (qHn P) := eHn
    obtain ⟨⟨r0, r2⟩, hr1, h1⟩ := zwp_get (show zwp (f_X11_gone a1 a2 (I 54) (I 53 3) (I 56) (I 53 0) (I 57) (I 53 1) (I 55) (J 53 2) (I 52) (I 32) (nI (qF P)) (I 34) (nI hr) (I 35) (nI pn) (I 33) (lN wl) (qDb P) (nI (qF P)) (qGc P) (nI (qGn P)) (I 26) (nI (qH P)) (qHc P) (nI (qHn P)) (I 29) (qLt P) (nI (qNl P)) (qSt P) (qWy P) (nI (qW P))) _ from c_gone hP hN)
    obtain ⟨⟨k, oj, o0, o1, o2, o3, o4, o5, o6, o7, o8, o9, o10⟩, hw, hk, hans, ho⟩ := zwp_get (l_gone (m_ar := J 107) (Q := fun x => x = r2) (zwp_of hr1 ⟨h1, rfl⟩))
    obtain ⟨⟨b, s0, s1, s2, s3⟩, hs, hb, hthr, hrw⟩ := zwp_get (show zwp (f_X12_gone a1 a2 (I 80) (qDb P) (-1) (nI (qF P)) (I 75 7) (I 75 8) (I 79) (nI (qNl P)) (I 94) (I 91) (nI (qH P)) (I 75 0) (I 93) (I 76) (I 77) (nI (qW P))) _ from m_gone (fcell := I 54) (fsore := I 55) (fheld := I 56) hP hm hN)
    have hw2 : f_L_gone a1 a2 1 (J 107) (I 54) (I 53 3) (I 56) (I 53 0) (I 57) (I 53 1) (I 55) (J 53 2) (I 52) (I 32) (I 31 3) (I 34) (I 31 0) (I 35) (I 31 1) (I 33) (J 31 2) (I 19 12) (I 19 3) (I 27) (I 25 2) (I 26) (I 19 1) (I 30) (I 28 2) (I 29) (I 24) (I 19 9) (I 21) (I 22) (I 19 0) = some (k, oj, o0, o1, o2, o3, o4, o5, o6, o7, o8, o9, o10) := by rw [eNf, eHr, ePn, eWl, eDb, eFg, eGc, eGn, eH, eHc, eHn, eLt, eNl, eSt, eWy, eW]; exact hw
    have hs2 : f_X12_gone a1 a2 (I 80) (I 75 6) (I 75 53) (I 75 3) (I 75 7) (I 75 8) (I 79) (I 75 5) (I 94) (I 91) (I 75 2) (I 75 0) (I 93) (I 76) (I 77) (I 75 1) = some (b, s0, s1, s2, s3) := by rw [mDb, eDa, mF, mNl, mH, mW]; exact hs
    refine ok_L_gone_0_107_q (by decide) (zwp_of hw2 ?_)
    refine ⟨k, 19, 7, _, _, rfl, rfl, ?_⟩
    refine ok_X12_gone_75 (by decide) (zwp_of hs2 ?_)
    refine ⟨b, _, _, rfl, rfl, hthr.trans hk.symm, fun h => (hans (hk.symm.trans h)).trans (congrArg Int32.toInt64 hb.symm), ?_⟩
    exact ⟨Or.inr ⟨rfl, rfl⟩, P, hr, pn, wl, nx, na, nn, ns, sz, hP, hm, hN.fr hP hrw, hD, hRf, hNo, hS, hIm, hT, eT1, eT2, eF, eDa, eW, eH, eFg, eSt, eWy, eNs, eNl, eLt, eDb, eGc, eGn, eHc, eHn, eHr, ePn, eWl, eNf, eNx, eNa, eNn, mW, mH, mF, mNs, mNl, mDb, mNa, mNn⟩
theorem op_count {p q : Nat} {I : pI} {J : pJ} (H : Inv p q I J) (a1 : Int32) : OpH 273 215 [.int a1] p q I J := by
  obtain ⟨hpq, P, hr, pn, wl, nx, na, nn, ns, sz, hP, hm, hN, hD, hRf, hNo, hS, hIm, hT, eT1, eT2, eF, eDa, eW, eH, eFg, eSt, eWy, eNs, eNl, eLt, eDb, eGc, eGn, eHc, eHn, eHr, ePn, eWl, eNf, eNx, eNa, eNn, mW, mH, mF, mNs, mNl, mDb, mNa, mNn⟩ := H
  rcases hpq with ⟨rfl, rfl⟩ | ⟨rfl, rfl⟩
  · replace hS : SeatR P ns (I 11) (I 78) := hS
    replace eW : I 7 0 = nI (qW P) := eW
    replace eH : I 7 1 = nI (qH P) := eH
    replace eFg : I 7 3 = nI (qF P) := eFg
    replace eSt : I 9 = qSt P := eSt
    replace eWy : I 10 = qWy P := eWy
    replace eNs : I 7 7 = nI ns := eNs
    replace eNl : I 7 9 = nI (qNl P) := eNl
    replace eLt : I 12 = qLt P := eLt
    replace eDb : I 7 12 = qDb P := eDb
    replace eGc : I 15 = qGc P := eGc
    replace eGn : I 13 2 = nI (qGn P) := eGn
    replace eHc : I 18 = qHc P := eHc
    replace eHn : I 16 2 = nI (qHn P) := eHn
    obtain ⟨⟨r0, r2⟩, hr1, h1⟩ := zwp_get (show zwp (f_X11_count a1 (nI na) (nI nn) (nI (qF P)) (I 34) (nI hr) (nI pn) (I 33) (lN wl) (qDb P) (nI (qF P)) (nI (qH P)) (qLt P) (nI (qNl P)) (nI ns) (nI (qW P)) (I 6) (nI sz) (I 59) (I 60)) _ from c_count hP hN)
    obtain ⟨⟨k, oj, o0, o1⟩, hw, hk, hans, ho⟩ := zwp_get (l_count (m_ar := J 107) (Q := fun x => x = r2) (zwp_of hr1 ⟨h1, rfl⟩))
    obtain ⟨⟨b, s0, s1, s2⟩, hs, hb, hthr⟩ := zwp_get (show zwp (f_X12_count a1 (nI na) (qDb P) (-1) (I 95) (nI (qF P)) (I 79) (nI (qNl P)) (nI nn) (I 96) (I 82) (I 91) (nI ns) (nI (qH P)) (nI sz) (I 75 0) (nI (qW P))) _ from m_count hP hN hm hRf)
    have hw2 : f_L_count a1 1 (J 107) (I 36 2) (I 36 3) (I 31 3) (I 34) (I 31 0) (I 31 1) (I 33) (J 31 2) (I 7 12) (I 7 3) (I 7 1) (I 12) (I 7 9) (I 7 7) (I 7 0) (I 6) (I 1 1) (I 59) (I 60) = some (k, oj, o0, o1) := by rw [eNa, eNn, eNf, eHr, ePn, eWl, eDb, eFg, eH, eLt, eNl, eNs, eW, eT1]; exact hw
    have hs2 : f_X12_count a1 (I 75 50) (I 75 6) (I 75 53) (I 95) (I 75 3) (I 79) (I 75 5) (I 75 60) (I 96) (I 82) (I 91) (I 75 4) (I 75 2) (I 75 15) (I 75 0) (I 75 1) = some (b, s0, s1, s2) := by rw [mNa, mDb, eDa, mF, mNl, mNn, mNs, mH, eT2, mW]; exact hs
    refine ok_L_count_0_107_p (by decide) (zwp_of hw2 ?_)
    refine ⟨k, 7, 19, _, _, rfl, rfl, ?_⟩
    refine ok_X12_count_75 (by decide) (zwp_of hs2 ?_)
    refine ⟨b, _, _, rfl, rfl, hthr.trans hk.symm, fun h => (hans (hk.symm.trans h)).trans (congrArg Int32.toInt64 hb.symm), ?_⟩
    exact ⟨Or.inl ⟨rfl, rfl⟩, P, hr, pn, wl, nx, na, nn, ns, sz, hP, hm, hN, hD, hRf, hNo, hS, hIm, hT, eT1, eT2, eF, eDa, eW, eH, eFg, eSt, eWy, eNs, eNl, eLt, eDb, eGc, eGn, eHc, eHn, eHr, ePn, eWl, eNf, eNx, eNa, eNn, mW, mH, mF, mNs, mNl, mDb, mNa, mNn⟩
  · replace hS : SeatR P ns (I 23) (I 78) := hS
    replace eW : I 19 0 = nI (qW P) := eW
    replace eH : I 19 1 = nI (qH P) := eH
    replace eFg : I 19 3 = nI (qF P) := eFg
    replace eSt : I 21 = qSt P := eSt
    replace eWy : I 22 = qWy P := eWy
    replace eNs : I 19 7 = nI ns := eNs
    replace eNl : I 19 9 = nI (qNl P) := eNl
    replace eLt : I 24 = qLt P := eLt
    replace eDb : I 19 12 = qDb P := eDb
    replace eGc : I 27 = qGc P := eGc
    replace eGn : I 25 2 = nI (qGn P) := eGn
    replace eHc : I 30 = qHc P := eHc
    replace eHn : I 28 2 = nI (qHn P) := eHn
    obtain ⟨⟨r0, r2⟩, hr1, h1⟩ := zwp_get (show zwp (f_X11_count a1 (nI na) (nI nn) (nI (qF P)) (I 34) (nI hr) (nI pn) (I 33) (lN wl) (qDb P) (nI (qF P)) (nI (qH P)) (qLt P) (nI (qNl P)) (nI ns) (nI (qW P)) (I 6) (nI sz) (I 59) (I 60)) _ from c_count hP hN)
    obtain ⟨⟨k, oj, o0, o1⟩, hw, hk, hans, ho⟩ := zwp_get (l_count (m_ar := J 107) (Q := fun x => x = r2) (zwp_of hr1 ⟨h1, rfl⟩))
    obtain ⟨⟨b, s0, s1, s2⟩, hs, hb, hthr⟩ := zwp_get (show zwp (f_X12_count a1 (nI na) (qDb P) (-1) (I 95) (nI (qF P)) (I 79) (nI (qNl P)) (nI nn) (I 96) (I 82) (I 91) (nI ns) (nI (qH P)) (nI sz) (I 75 0) (nI (qW P))) _ from m_count hP hN hm hRf)
    have hw2 : f_L_count a1 1 (J 107) (I 36 2) (I 36 3) (I 31 3) (I 34) (I 31 0) (I 31 1) (I 33) (J 31 2) (I 19 12) (I 19 3) (I 19 1) (I 24) (I 19 9) (I 19 7) (I 19 0) (I 6) (I 1 1) (I 59) (I 60) = some (k, oj, o0, o1) := by rw [eNa, eNn, eNf, eHr, ePn, eWl, eDb, eFg, eH, eLt, eNl, eNs, eW, eT1]; exact hw
    have hs2 : f_X12_count a1 (I 75 50) (I 75 6) (I 75 53) (I 95) (I 75 3) (I 79) (I 75 5) (I 75 60) (I 96) (I 82) (I 91) (I 75 4) (I 75 2) (I 75 15) (I 75 0) (I 75 1) = some (b, s0, s1, s2) := by rw [mNa, mDb, eDa, mF, mNl, mNn, mNs, mH, eT2, mW]; exact hs
    refine ok_L_count_0_107_q (by decide) (zwp_of hw2 ?_)
    refine ⟨k, 19, 7, _, _, rfl, rfl, ?_⟩
    refine ok_X12_count_75 (by decide) (zwp_of hs2 ?_)
    refine ⟨b, _, _, rfl, rfl, hthr.trans hk.symm, fun h => (hans (hk.symm.trans h)).trans (congrArg Int32.toInt64 hb.symm), ?_⟩
    exact ⟨Or.inr ⟨rfl, rfl⟩, P, hr, pn, wl, nx, na, nn, ns, sz, hP, hm, hN, hD, hRf, hNo, hS, hIm, hT, eT1, eT2, eF, eDa, eW, eH, eFg, eSt, eWy, eNs, eNl, eLt, eDb, eGc, eGn, eHc, eHn, eHr, ePn, eWl, eNf, eNx, eNa, eNn, mW, mH, mF, mNs, mNl, mDb, mNa, mNn⟩
theorem op_figure {p q : Nat} {I : pI} {J : pJ} (H : Inv p q I J) (a1 a2 : Int32) : OpH 274 220 [.int a1, .int a2] p q I J := by
  obtain ⟨hpq, P, hr, pn, wl, nx, na, nn, ns, sz, hP, hm, hN, hD, hRf, hNo, hS, hIm, hT, eT1, eT2, eF, eDa, eW, eH, eFg, eSt, eWy, eNs, eNl, eLt, eDb, eGc, eGn, eHc, eHn, eHr, ePn, eWl, eNf, eNx, eNa, eNn, mW, mH, mF, mNs, mNl, mDb, mNa, mNn⟩ := H
  rcases hpq with ⟨rfl, rfl⟩ | ⟨rfl, rfl⟩
  · replace hS : SeatR P ns (I 11) (I 78) := hS
    replace eW : I 7 0 = nI (qW P) := eW
    replace eH : I 7 1 = nI (qH P) := eH
    replace eFg : I 7 3 = nI (qF P) := eFg
    replace eSt : I 9 = qSt P := eSt
    replace eWy : I 10 = qWy P := eWy
    replace eNs : I 7 7 = nI ns := eNs
    replace eNl : I 7 9 = nI (qNl P) := eNl
    replace eLt : I 12 = qLt P := eLt
    replace eDb : I 7 12 = qDb P := eDb
    replace eGc : I 15 = qGc P := eGc
    replace eGn : I 13 2 = nI (qGn P) := eGn
    replace eHc : I 18 = qHc P := eHc
    replace eHn : I 16 2 = nI (qHn P) := eHn
    obtain ⟨r0, hr1, h1⟩ := zwp_get (show zwp (f_X11_figure a1 a2 (I 32) (nI (qF P)) (I 34) (nI hr) (I 35) (I 33) (nI (qF P)) (qSt P) (qWy P)) _ from c_figure hP hN)
    obtain ⟨⟨k, oj⟩, hw, hk, hans⟩ := zwp_get (l_figure (m_ar := J 107) (zwp_of hr1 h1))
    obtain ⟨⟨b, s0⟩, hs, hb, hthr⟩ := zwp_get (show zwp (f_X12_figure a1 a2 (nI (qF P)) (I 91) (I 75 0) (I 76) (I 77)) _ from m_figure hP hN hm)
    have hw2 : f_L_figure a1 a2 1 (J 107) (I 32) (I 31 3) (I 34) (I 31 0) (I 35) (I 33) (I 7 3) (I 9) (I 10) = some (k, oj) := by rw [eNf, eHr, eFg, eSt, eWy]; exact hw
    have hs2 : f_X12_figure a1 a2 (I 75 3) (I 91) (I 75 0) (I 76) (I 77) = some (b, s0) := by rw [mF]; exact hs
    refine ok_L_figure_0_107_p (by decide) (zwp_of hw2 ?_)
    refine ⟨k, 7, 19, _, _, rfl, rfl, ?_⟩
    refine ok_X12_figure_75 (by decide) (zwp_of hs2 ?_)
    refine ⟨b, _, _, rfl, rfl, hthr.trans hk.symm, fun h => (hans (hk.symm.trans h)).trans (congrArg Int32.toInt64 hb.symm), ?_⟩
    exact ⟨Or.inl ⟨rfl, rfl⟩, P, hr, pn, wl, nx, na, nn, ns, sz, hP, hm, hN, hD, hRf, hNo, hS, hIm, hT, eT1, eT2, eF, eDa, eW, eH, eFg, eSt, eWy, eNs, eNl, eLt, eDb, eGc, eGn, eHc, eHn, eHr, ePn, eWl, eNf, eNx, eNa, eNn, mW, mH, mF, mNs, mNl, mDb, mNa, mNn⟩
  · replace hS : SeatR P ns (I 23) (I 78) := hS
    replace eW : I 19 0 = nI (qW P) := eW
    replace eH : I 19 1 = nI (qH P) := eH
    replace eFg : I 19 3 = nI (qF P) := eFg
    replace eSt : I 21 = qSt P := eSt
    replace eWy : I 22 = qWy P := eWy
    replace eNs : I 19 7 = nI ns := eNs
    replace eNl : I 19 9 = nI (qNl P) := eNl
    replace eLt : I 24 = qLt P := eLt
    replace eDb : I 19 12 = qDb P := eDb
    replace eGc : I 27 = qGc P := eGc
    replace eGn : I 25 2 = nI (qGn P) := eGn
    replace eHc : I 30 = qHc P := eHc
    replace eHn : I 28 2 = nI (qHn P) := eHn
    obtain ⟨r0, hr1, h1⟩ := zwp_get (show zwp (f_X11_figure a1 a2 (I 32) (nI (qF P)) (I 34) (nI hr) (I 35) (I 33) (nI (qF P)) (qSt P) (qWy P)) _ from c_figure hP hN)
    obtain ⟨⟨k, oj⟩, hw, hk, hans⟩ := zwp_get (l_figure (m_ar := J 107) (zwp_of hr1 h1))
    obtain ⟨⟨b, s0⟩, hs, hb, hthr⟩ := zwp_get (show zwp (f_X12_figure a1 a2 (nI (qF P)) (I 91) (I 75 0) (I 76) (I 77)) _ from m_figure hP hN hm)
    have hw2 : f_L_figure a1 a2 1 (J 107) (I 32) (I 31 3) (I 34) (I 31 0) (I 35) (I 33) (I 19 3) (I 21) (I 22) = some (k, oj) := by rw [eNf, eHr, eFg, eSt, eWy]; exact hw
    have hs2 : f_X12_figure a1 a2 (I 75 3) (I 91) (I 75 0) (I 76) (I 77) = some (b, s0) := by rw [mF]; exact hs
    refine ok_L_figure_0_107_q (by decide) (zwp_of hw2 ?_)
    refine ⟨k, 19, 7, _, _, rfl, rfl, ?_⟩
    refine ok_X12_figure_75 (by decide) (zwp_of hs2 ?_)
    refine ⟨b, _, _, rfl, rfl, hthr.trans hk.symm, fun h => (hans (hk.symm.trans h)).trans (congrArg Int32.toInt64 hb.symm), ?_⟩
    exact ⟨Or.inr ⟨rfl, rfl⟩, P, hr, pn, wl, nx, na, nn, ns, sz, hP, hm, hN, hD, hRf, hNo, hS, hIm, hT, eT1, eT2, eF, eDa, eW, eH, eFg, eSt, eWy, eNs, eNl, eLt, eDb, eGc, eGn, eHc, eHn, eHr, ePn, eWl, eNf, eNx, eNa, eNn, mW, mH, mF, mNs, mNl, mDb, mNa, mNn⟩
theorem op_cell {p q : Nat} {I : pI} {J : pJ} (H : Inv p q I J) (a1 a2 : Int32) : OpH 275 222 [.int a1, .int a2] p q I J := by
  obtain ⟨hpq, P, hr, pn, wl, nx, na, nn, ns, sz, hP, hm, hN, hD, hRf, hNo, hS, hIm, hT, eT1, eT2, eF, eDa, eW, eH, eFg, eSt, eWy, eNs, eNl, eLt, eDb, eGc, eGn, eHc, eHn, eHr, ePn, eWl, eNf, eNx, eNa, eNn, mW, mH, mF, mNs, mNl, mDb, mNa, mNn⟩ := H
  rcases hpq with ⟨rfl, rfl⟩ | ⟨rfl, rfl⟩
  · replace hS : SeatR P ns (I 11) (I 78) := hS
    replace eW : I 7 0 = nI (qW P) := eW
    replace eH : I 7 1 = nI (qH P) := eH
    replace eFg : I 7 3 = nI (qF P) := eFg
    replace eSt : I 9 = qSt P := eSt
    replace eWy : I 10 = qWy P := eWy
    replace eNs : I 7 7 = nI ns := eNs
    replace eNl : I 7 9 = nI (qNl P) := eNl
    replace eLt : I 12 = qLt P := eLt
    replace eDb : I 7 12 = qDb P := eDb
    replace eGc : I 15 = qGc P := eGc
    replace eGn : I 13 2 = nI (qGn P) := eGn
    replace eHc : I 18 = qHc P := eHc
    replace eHn : I 16 2 = nI (qHn P) := eHn
    obtain ⟨r0, hr1, h1⟩ := zwp_get (show zwp (f_X11_cell a1 a2 (I 32) (nI (qF P)) (lN wl) (nI (qH P)) (I 11) (nI ns) (nI (qW P))) _ from c_cell hP hN hS)
    obtain ⟨⟨k, oj⟩, hw, hk, hans⟩ := zwp_get (l_cell (m_ar := J 107) (zwp_of hr1 h1))
    obtain ⟨⟨b, s0⟩, hs, hb, hthr⟩ := zwp_get (show zwp (f_X12_cell a1 a2 (nI (qF P)) (I 91) (I 78) (nI ns) (nI (qH P)) (I 75 0) (nI (qW P))) _ from m_cell hP hN hS)
    have hw2 : f_L_cell a1 a2 1 (J 107) (I 32) (I 31 3) (J 31 2) (I 7 1) (I 11) (I 7 7) (I 7 0) = some (k, oj) := by rw [eNf, eWl, eH, eNs, eW]; exact hw
    have hs2 : f_X12_cell a1 a2 (I 75 3) (I 91) (I 78) (I 75 4) (I 75 2) (I 75 0) (I 75 1) = some (b, s0) := by rw [mF, mNs, mH, mW]; exact hs
    refine ok_L_cell_0_107_p (by decide) (zwp_of hw2 ?_)
    refine ⟨k, 7, 19, _, _, rfl, rfl, ?_⟩
    refine ok_X12_cell_75 (by decide) (zwp_of hs2 ?_)
    refine ⟨b, _, _, rfl, rfl, hthr.trans hk.symm, fun h => (hans (hk.symm.trans h)).trans (congrArg Int32.toInt64 hb.symm), ?_⟩
    exact ⟨Or.inl ⟨rfl, rfl⟩, P, hr, pn, wl, nx, na, nn, ns, sz, hP, hm, hN, hD, hRf, hNo, hS, hIm, hT, eT1, eT2, eF, eDa, eW, eH, eFg, eSt, eWy, eNs, eNl, eLt, eDb, eGc, eGn, eHc, eHn, eHr, ePn, eWl, eNf, eNx, eNa, eNn, mW, mH, mF, mNs, mNl, mDb, mNa, mNn⟩
  · replace hS : SeatR P ns (I 23) (I 78) := hS
    replace eW : I 19 0 = nI (qW P) := eW
    replace eH : I 19 1 = nI (qH P) := eH
    replace eFg : I 19 3 = nI (qF P) := eFg
    replace eSt : I 21 = qSt P := eSt
    replace eWy : I 22 = qWy P := eWy
    replace eNs : I 19 7 = nI ns := eNs
    replace eNl : I 19 9 = nI (qNl P) := eNl
    replace eLt : I 24 = qLt P := eLt
    replace eDb : I 19 12 = qDb P := eDb
    replace eGc : I 27 = qGc P := eGc
    replace eGn : I 25 2 = nI (qGn P) := eGn
    replace eHc : I 30 = qHc P := eHc
    replace eHn : I 28 2 = nI (qHn P) := eHn
    obtain ⟨r0, hr1, h1⟩ := zwp_get (show zwp (f_X11_cell a1 a2 (I 32) (nI (qF P)) (lN wl) (nI (qH P)) (I 23) (nI ns) (nI (qW P))) _ from c_cell hP hN hS)
    obtain ⟨⟨k, oj⟩, hw, hk, hans⟩ := zwp_get (l_cell (m_ar := J 107) (zwp_of hr1 h1))
    obtain ⟨⟨b, s0⟩, hs, hb, hthr⟩ := zwp_get (show zwp (f_X12_cell a1 a2 (nI (qF P)) (I 91) (I 78) (nI ns) (nI (qH P)) (I 75 0) (nI (qW P))) _ from m_cell hP hN hS)
    have hw2 : f_L_cell a1 a2 1 (J 107) (I 32) (I 31 3) (J 31 2) (I 19 1) (I 23) (I 19 7) (I 19 0) = some (k, oj) := by rw [eNf, eWl, eH, eNs, eW]; exact hw
    have hs2 : f_X12_cell a1 a2 (I 75 3) (I 91) (I 78) (I 75 4) (I 75 2) (I 75 0) (I 75 1) = some (b, s0) := by rw [mF, mNs, mH, mW]; exact hs
    refine ok_L_cell_0_107_q (by decide) (zwp_of hw2 ?_)
    refine ⟨k, 19, 7, _, _, rfl, rfl, ?_⟩
    refine ok_X12_cell_75 (by decide) (zwp_of hs2 ?_)
    refine ⟨b, _, _, rfl, rfl, hthr.trans hk.symm, fun h => (hans (hk.symm.trans h)).trans (congrArg Int32.toInt64 hb.symm), ?_⟩
    exact ⟨Or.inr ⟨rfl, rfl⟩, P, hr, pn, wl, nx, na, nn, ns, sz, hP, hm, hN, hD, hRf, hNo, hS, hIm, hT, eT1, eT2, eF, eDa, eW, eH, eFg, eSt, eWy, eNs, eNl, eLt, eDb, eGc, eGn, eHc, eHn, eHr, ePn, eWl, eNf, eNx, eNa, eNn, mW, mH, mF, mNs, mNl, mDb, mNa, mNn⟩
