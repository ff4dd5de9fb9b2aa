/-! the acts; what has no helper -/
theorem b2_01 (w : Bool) : b2 w = 0 ∨ b2 w = 1 := by cases w; exact Or.inl rfl; exact Or.inr rfl
theorem l_wall {a1 a2 : Int32} {m_ar : Nat → Int64} {x1 x2 x3 x4 x5 x6 x7 x8 : Int32} {y1 y2 y3 y4 y5 y6 : Nat → Int32} {z : Int64} {sp : Option Bool} {Q : Int32 × Int32 × (Nat → Int32) × Int64 × (Nat → Int32) → Prop} (h : zwp (f_X11_wall a1 a2 x1 x2 y1 y2 x3 y3 x4 x5 y4 z x6 y5 x7 x8 y6) (fun r => r.1 = toN (sp.map b2) ∧ Q r.2)) : zwp (f_L_wall a1 a2 1 m_ar x1 x2 y1 y2 x3 y3 x4 x5 y4 z x6 y5 x7 x8 y6) (fun r => r.1 = toU (sp.map b2) ∧ (toU (sp.map b2) = 0 → r.2.1 0 = (toW (sp.map b2)).toInt64) ∧ Q r.2.2) := by
  unfold f_L_wall
  refine zi_bind (zwp_mono h ?_)
  rintro ⟨v, o0, o1, o2, o3, o4⟩ ⟨hv, hq⟩
  dsimp only at hv hq
  subst hv
  rcases sp with _ | v
  · exact zi_t rfl (zwi ⟨rfl, fun h => absurd h (by decide), hq⟩)
  · have e : zwp (if b2 v = (0 : Int32) then some (0 : Int64) else some (1 : Int64)) (fun j => j = (b2 v).toInt64) := by
      cases v
      · exact zwi rfl
      · exact zwi rfl
    refine zi_bind (zwp_mono e ?_)
    intro j hj
    subst hj
    show zwp (zbnd (nI 0) 1 _) _
    rw [zbnd_nI (by decide) (by decide)]
    exact zwi ⟨rfl, fun _ => rfl, hq⟩
/-- the wall: a truth value on both sides -/
def OpW (jH jM : Nat) (as : List Value) (p q : Nat) (I : pI) (J : pJ) : Prop := pm_call M cost zext 15 jH (.ref 0 :: (as ++ [.ref 107])) (pm_st 108 (shp p q) I J) (fun o S => ∃ (k : Int32) (p1 q1 : Nat) (I1 : pI) (J1 : pJ), o = .inl (some (.int k)) ∧ S = pm_st 108 (shp p1 q1) I1 J1 ∧ pm_call M cost zext 15 jM (.ref 75 :: as) S (fun o S => ∃ (b : Int32) (I2 : pI) (J2 : pJ), o = .inl (some (.int b)) ∧ S = pm_st 108 (shp p1 q1) I2 J2 ∧ I2 75 0 = k ∧ (k = 0 → J2 107 0 = b.toInt64) ∧ (b = 0 ∨ b = 1) ∧ Inv p1 q1 I2 J2))
theorem op_stop {p q : Nat} {I : pI} {J : pJ} (H : Inv p q I J) (a1 a2 : Int32) : OpH 276 224 [.int a1, .int a2] p q I J := by
  obtain ⟨hpq, P, hr, pn, wl, nx, na, nn, ns, sz, hP, hm, hN, hD, hRf, hNo, hS, hIm, hT, eT1, eT2, eF, eDa, eW, eH, eFg, eSt, eWy, eNs, eNl, eLt, eDb, eGc, eGn, eHc, eHn, eHr, ePn, eWl, eNf, eNx, eNa, eNn, mW, mH, mF, mNs, mNl, mDb, mNa, mNn⟩ := H
  rcases hpq with ⟨rfl, rfl⟩ | ⟨rfl, rfl⟩
  · replace hS : SeatR P ns (I 11) (I 78) := hS
    replace eW : I 7 0 = nI (qW P) := eW
    replace eH : I 7 1 = nI (qH P) := eH
    replace eFg : I 7 3 = nI (qF P) := eFg
    replace eSt : I 9 = qSt P := eSt
    replace eWy : I 10 = qWy P := eWy
    replace eNs : I 7 7 = nI ns := eNs
    replace eNl : I 7 9 = nI (qNl P) := eNl
    replace eLt : I 12 = qLt P := eLt
    replace eDb : I 7 12 = qDb P := eDb
    replace eGc : I 15 = qGc P := eGc
    replace eGn : I 13 2 = nI (qGn P) := eGn
    replace eHc : I 18 = qHc P := eHc
    replace eHn : I 16 2 = nI (qHn P) := eHn
    obtain ⟨⟨r0, r2⟩, hr1, h1, h2⟩ := zwp_get (show zwp (f_X11_stop a1 a2 (nI na) (nI nx) (I 37) (I 32) (I 34) (nI hr) (nI pn) (I 33) (lN wl) (qDb P) (nI (qF P)) (qLt P) (nI (qNl P)) (I 6)) _ from cm_stop (mtold := I 93) (mpile := I 94) (vals := I 52) (gst := I 14) (hst := I 17) (mthr := I 75 0) hP hm ⟨hN, hD, hRf⟩)
    obtain ⟨⟨k, oj, o0, o1, o2, o3, o4, o5⟩, hw, hk, hans, ho⟩ := zwp_get (l_stop (m_ar := J 107) (Q := fun x => x = r2) (zwp_of hr1 ⟨h1, rfl⟩))
    dsimp only at ho
    subst ho
    obtain ⟨⟨b, s0, s1, s2, s3, s4⟩, hs, hb, hthr, nx2, na2, pn2, q1, q2, q3, q4, hN2, hD2, hRf2⟩ := zwp_get h2
    have hw2 : f_L_stop a1 a2 1 (J 107) (I 36 2) (I 36 1) (I 37) (I 32) (I 34) (I 31 0) (I 31 1) (I 33) (J 31 2) (I 7 12) (I 7 3) (I 12) (I 7 9) (I 6) = some (k, oj, o0, o1, o2, o3, o4, o5) := by rw [eNa, eNx, eHr, ePn, eWl, eDb, eFg, eLt, eNl]; exact hw
    have hs2 : f_X12_stop a1 a2 (I 75 50) (I 75 6) (I 75 53) (I 75 3) (I 92) (I 79) (I 75 5) (I 82) (I 91) (I 75 0) = some (b, s0, s1, s2, s3, s4) := by rw [mNa, mDb, eDa, mF, mNl]; exact hs
    refine ok_L_stop_0_107_p (by decide) (zwp_of hw2 ?_)
    refine ⟨k, 7, 19, _, _, rfl, rfl, ?_⟩
    refine ok_X12_stop_75 (by decide) (zwp_of hs2 ?_)
    refine ⟨b, _, _, rfl, rfl, hthr.trans hk.symm, fun h => (hans (hk.symm.trans h)).trans (congrArg Int32.toInt64 hb.symm), ?_⟩
    exact ⟨Or.inl ⟨rfl, rfl⟩, P, hr, pn2, wl, nx2, na2, nn, ns, sz, hP, hm, hN2, hD2, hRf2, hNo, hS, hIm, hT, eT1, eT2, eF, eDa, eW, eH, eFg, eSt, eWy, eNs, eNl, eLt, eDb, eGc, eGn, eHc, eHn, eHr, q4, eWl, eNf, q3, q1, eNn, mW, mH, mF, mNs, mNl, mDb, q2, mNn⟩
  · replace hS : SeatR P ns (I 23) (I 78) := hS
    replace eW : I 19 0 = nI (qW P) := eW
    replace eH : I 19 1 = nI (qH P) := eH
    replace eFg : I 19 3 = nI (qF P) := eFg
    replace eSt : I 21 = qSt P := eSt
    replace eWy : I 22 = qWy P := eWy
    replace eNs : I 19 7 = nI ns := eNs
    replace eNl : I 19 9 = nI (qNl P) := eNl
    replace eLt : I 24 = qLt P := eLt
    replace eDb : I 19 12 = qDb P := eDb
    replace eGc : I 27 = qGc P := eGc
    replace eGn : I 25 2 = nI (qGn P) := eGn
    replace eHc : I 30 = qHc P := eHc
    replace eHn : I 28 2 = nI (qHn P) := eHn
    obtain ⟨⟨r0, r2⟩, hr1, h1, h2⟩ := zwp_get (show zwp (f_X11_stop a1 a2 (nI na) (nI nx) (I 37) (I 32) (I 34) (nI hr) (nI pn) (I 33) (lN wl) (qDb P) (nI (qF P)) (qLt P) (nI (qNl P)) (I 6)) _ from cm_stop (mtold := I 93) (mpile := I 94) (vals := I 52) (gst := I 26) (hst := I 29) (mthr := I 75 0) hP hm ⟨hN, hD, hRf⟩)
    obtain ⟨⟨k, oj, o0, o1, o2, o3, o4, o5⟩, hw, hk, hans, ho⟩ := zwp_get (l_stop (m_ar := J 107) (Q := fun x => x = r2) (zwp_of hr1 ⟨h1, rfl⟩))
    dsimp only at ho
    subst ho
    obtain ⟨⟨b, s0, s1, s2, s3, s4⟩, hs, hb, hthr, nx2, na2, pn2, q1, q2, q3, q4, hN2, hD2, hRf2⟩ := zwp_get h2
    have hw2 : f_L_stop a1 a2 1 (J 107) (I 36 2) (I 36 1) (I 37) (I 32) (I 34) (I 31 0) (I 31 1) (I 33) (J 31 2) (I 19 12) (I 19 3) (I 24) (I 19 9) (I 6) = some (k, oj, o0, o1, o2, o3, o4, o5) := by rw [eNa, eNx, eHr, ePn, eWl, eDb, eFg, eLt, eNl]; exact hw
    have hs2 : f_X12_stop a1 a2 (I 75 50) (I 75 6) (I 75 53) (I 75 3) (I 92) (I 79) (I 75 5) (I 82) (I 91) (I 75 0) = some (b, s0, s1, s2, s3, s4) := by rw [mNa, mDb, eDa, mF, mNl]; exact hs
    refine ok_L_stop_0_107_q (by decide) (zwp_of hw2 ?_)
    refine ⟨k, 19, 7, _, _, rfl, rfl, ?_⟩
    refine ok_X12_stop_75 (by decide) (zwp_of hs2 ?_)
    refine ⟨b, _, _, rfl, rfl, hthr.trans hk.symm, fun h => (hans (hk.symm.trans h)).trans (congrArg Int32.toInt64 hb.symm), ?_⟩
    exact ⟨Or.inr ⟨rfl, rfl⟩, P, hr, pn2, wl, nx2, na2, nn, ns, sz, hP, hm, hN2, hD2, hRf2, hNo, hS, hIm, hT, eT1, eT2, eF, eDa, eW, eH, eFg, eSt, eWy, eNs, eNl, eLt, eDb, eGc, eGn, eHc, eHn, eHr, q4, eWl, eNf, q3, q1, eNn, mW, mH, mF, mNs, mNl, mDb, q2, mNn⟩
theorem op_lift {p q : Nat} {I : pI} {J : pJ} (H : Inv p q I J) (a1 a2 : Int32) : OpH 277 225 [.int a1, .int a2] p q I J := by
  obtain ⟨hpq, P, hr, pn, wl, nx, na, nn, ns, sz, hP, hm, hN, hD, hRf, hNo, hS, hIm, hT, eT1, eT2, eF, eDa, eW, eH, eFg, eSt, eWy, eNs, eNl, eLt, eDb, eGc, eGn, eHc, eHn, eHr, ePn, eWl, eNf, eNx, eNa, eNn, mW, mH, mF, mNs, mNl, mDb, mNa, mNn⟩ := H
  rcases hpq with ⟨rfl, rfl⟩ | ⟨rfl, rfl⟩
  · replace hS : SeatR P ns (I 11) (I 78) := hS
    replace eW : I 7 0 = nI (qW P) := eW
    replace eH : I 7 1 = nI (qH P) := eH
    replace eFg : I 7 3 = nI (qF P) := eFg
    replace eSt : I 9 = qSt P := eSt
    replace eWy : I 10 = qWy P := eWy
    replace eNs : I 7 7 = nI ns := eNs
    replace eNl : I 7 9 = nI (qNl P) := eNl
    replace eLt : I 12 = qLt P := eLt
    replace eDb : I 7 12 = qDb P := eDb
    replace eGc : I 15 = qGc P := eGc
    replace eGn : I 13 2 = nI (qGn P) := eGn
    replace eHc : I 18 = qHc P := eHc
    replace eHn : I 16 2 = nI (qHn P) := eHn
    obtain ⟨⟨r0, r2⟩, hr1, h1, h2⟩ := zwp_get (show zwp (f_X11_lift a1 a2 (nI na) (nI nx) (I 37) (I 32) (I 34) (nI hr) (nI pn) (I 33) (lN wl) (qDb P) (nI (qF P)) (nI (qH P)) (qLt P) (nI (qNl P)) (nI (qW P)) (I 6)) _ from cm_lift (mtold := I 93) (mpile := I 94) (vals := I 52) (gst := I 14) (hst := I 17) (mthr := I 75 0) hP hm ⟨hN, hD, hRf⟩)
    obtain ⟨⟨k, oj, o0, o1, o2, o3, o4, o5, o6⟩, hw, hk, hans, ho⟩ := zwp_get (l_lift (m_ar := J 107) (Q := fun x => x = r2) (zwp_of hr1 ⟨h1, rfl⟩))
    dsimp only at ho
    subst ho
    obtain ⟨⟨b, s0, s1, s2, s3, s4⟩, hs, hb, hthr, nx2, na2, pn2, q1, q2, q3, q4, hN2, hD2, hRf2⟩ := zwp_get h2
    have hw2 : f_L_lift a1 a2 1 (J 107) (I 36 2) (I 36 1) (I 37) (I 32) (I 34) (I 31 0) (I 31 1) (I 33) (J 31 2) (I 7 12) (I 7 3) (I 7 1) (I 12) (I 7 9) (I 7 0) (I 6) = some (k, oj, o0, o1, o2, o3, o4, o5, o6) := by rw [eNa, eNx, eHr, ePn, eWl, eDb, eFg, eH, eLt, eNl, eW]; exact hw
    have hs2 : f_X12_lift a1 a2 (I 75 50) (I 75 6) (I 75 53) (I 75 3) (I 92) (I 79) (I 75 5) (I 82) (I 91) (I 75 2) (I 75 0) (I 75 1) = some (b, s0, s1, s2, s3, s4) := by rw [mNa, mDb, eDa, mF, mNl, mH, mW]; exact hs
    refine ok_L_lift_0_107_p (by decide) (zwp_of hw2 ?_)
    refine ⟨k, 7, 19, _, _, rfl, rfl, ?_⟩
    refine ok_X12_lift_75 (by decide) (zwp_of hs2 ?_)
    refine ⟨b, _, _, rfl, rfl, hthr.trans hk.symm, fun h => (hans (hk.symm.trans h)).trans (congrArg Int32.toInt64 hb.symm), ?_⟩
    exact ⟨Or.inl ⟨rfl, rfl⟩, P, hr, pn2, wl, nx2, na2, nn, ns, sz, hP, hm, hN2, hD2, hRf2, hNo, hS, hIm, hT, eT1, eT2, eF, eDa, eW, eH, eFg, eSt, eWy, eNs, eNl, eLt, eDb, eGc, eGn, eHc, eHn, eHr, q4, eWl, eNf, q3, q1, eNn, mW, mH, mF, mNs, mNl, mDb, q2, mNn⟩
  · replace hS : SeatR P ns (I 23) (I 78) := hS
    replace eW : I 19 0 = nI (qW P) := eW
    replace eH : I 19 1 = nI (qH P) := eH
    replace eFg : I 19 3 = nI (qF P) := eFg
    replace eSt : I 21 = qSt P := eSt
    replace eWy : I 22 = qWy P := eWy
    replace eNs : I 19 7 = nI ns := eNs
    replace eNl : I 19 9 = nI (qNl P) := eNl
    replace eLt : I 24 = qLt P := eLt
    replace eDb : I 19 12 = qDb P := eDb
    replace eGc : I 27 = qGc P := eGc
    replace eGn : I 25 2 = nI (qGn P) := eGn
    replace eHc : I 30 = qHc P := eHc
    replace eHn : I 28 2 = nI (qHn P) := eHn
    obtain ⟨⟨r0, r2⟩, hr1, h1, h2⟩ := zwp_get (show zwp (f_X11_lift a1 a2 (nI na) (nI nx) (I 37) (I 32) (I 34) (nI hr) (nI pn) (I 33) (lN wl) (qDb P) (nI (qF P)) (nI (qH P)) (qLt P) (nI (qNl P)) (nI (qW P)) (I 6)) _ from cm_lift (mtold := I 93) (mpile := I 94) (vals := I 52) (gst := I 26) (hst := I 29) (mthr := I 75 0) hP hm ⟨hN, hD, hRf⟩)
    obtain ⟨⟨k, oj, o0, o1, o2, o3, o4, o5, o6⟩, hw, hk, hans, ho⟩ := zwp_get (l_lift (m_ar := J 107) (Q := fun x => x = r2) (zwp_of hr1 ⟨h1, rfl⟩))
    dsimp only at ho
    subst ho
    obtain ⟨⟨b, s0, s1, s2, s3, s4⟩, hs, hb, hthr, nx2, na2, pn2, q1, q2, q3, q4, hN2, hD2, hRf2⟩ := zwp_get h2
    have hw2 : f_L_lift a1 a2 1 (J 107) (I 36 2) (I 36 1) (I 37) (I 32) (I 34) (I 31 0) (I 31 1) (I 33) (J 31 2) (I 19 12) (I 19 3) (I 19 1) (I 24) (I 19 9) (I 19 0) (I 6) = some (k, oj, o0, o1, o2, o3, o4, o5, o6) := by rw [eNa, eNx, eHr, ePn, eWl, eDb, eFg, eH, eLt, eNl, eW]; exact hw
    have hs2 : f_X12_lift a1 a2 (I 75 50) (I 75 6) (I 75 53) (I 75 3) (I 92) (I 79) (I 75 5) (I 82) (I 91) (I 75 2) (I 75 0) (I 75 1) = some (b, s0, s1, s2, s3, s4) := by rw [mNa, mDb, eDa, mF, mNl, mH, mW]; exact hs
    refine ok_L_lift_0_107_q (by decide) (zwp_of hw2 ?_)
    refine ⟨k, 19, 7, _, _, rfl, rfl, ?_⟩
    refine ok_X12_lift_75 (by decide) (zwp_of hs2 ?_)
    refine ⟨b, _, _, rfl, rfl, hthr.trans hk.symm, fun h => (hans (hk.symm.trans h)).trans (congrArg Int32.toInt64 hb.symm), ?_⟩
    exact ⟨Or.inr ⟨rfl, rfl⟩, P, hr, pn2, wl, nx2, na2, nn, ns, sz, hP, hm, hN2, hD2, hRf2, hNo, hS, hIm, hT, eT1, eT2, eF, eDa, eW, eH, eFg, eSt, eWy, eNs, eNl, eLt, eDb, eGc, eGn, eHc, eHn, eHr, q4, eWl, eNf, q3, q1, eNn, mW, mH, mF, mNs, mNl, mDb, q2, mNn⟩
theorem op_brush {p q : Nat} {I : pI} {J : pJ} (H : Inv p q I J) (a1 : Int32) : OpH 278 226 [.int a1] p q I J := by
  obtain ⟨hpq, P, hr, pn, wl, nx, na, nn, ns, sz, hP, hm, hN, hD, hRf, hNo, hS, hIm, hT, eT1, eT2, eF, eDa, eW, eH, eFg, eSt, eWy, eNs, eNl, eLt, eDb, eGc, eGn, eHc, eHn, eHr, ePn, eWl, eNf, eNx, eNa, eNn, mW, mH, mF, mNs, mNl, mDb, mNa, mNn⟩ := H
  rcases hpq with ⟨rfl, rfl⟩ | ⟨rfl, rfl⟩
  · replace hS : SeatR P ns (I 11) (I 78) := hS
    replace eW : I 7 0 = nI (qW P) := eW
    replace eH : I 7 1 = nI (qH P) := eH
    replace eFg : I 7 3 = nI (qF P) := eFg
    replace eSt : I 9 = qSt P := eSt
    replace eWy : I 10 = qWy P := eWy
    replace eNs : I 7 7 = nI ns := eNs
    replace eNl : I 7 9 = nI (qNl P) := eNl
    replace eLt : I 12 = qLt P := eLt
    replace eDb : I 7 12 = qDb P := eDb
    replace eGc : I 15 = qGc P := eGc
    replace eGn : I 13 2 = nI (qGn P) := eGn
    replace eHc : I 18 = qHc P := eHc
    replace eHn : I 16 2 = nI (qHn P) := eHn
    obtain ⟨⟨r0, r2⟩, hr1, h1, h2⟩ := zwp_get (show zwp (f_X11_brush a1 (nI na) (nI nx) (I 37) (I 32) (I 34) (nI hr) (nI pn) (I 33) (lN wl) (nI (qF P)) (I 6)) _ from cm_brush (mtold := I 93) (mpile := I 94) (vals := I 52) (gst := I 14) (hst := I 17) (mthr := I 75 0) hP hm ⟨hN, hD, hRf⟩)
    obtain ⟨⟨k, oj, o0, o1, o2, o3, o4⟩, hw, hk, hans, ho⟩ := zwp_get (l_brush (m_ar := J 107) (Q := fun x => x = r2) (zwp_of hr1 ⟨h1, rfl⟩))
    dsimp only at ho
    subst ho
    obtain ⟨⟨b, s0, s1, s2, s3, s4⟩, hs, hb, hthr, nx2, na2, q1, q2, q3, hN2, hD2, hRf2⟩ := zwp_get h2
    have hw2 : f_L_brush a1 1 (J 107) (I 36 2) (I 36 1) (I 37) (I 32) (I 34) (I 31 0) (I 31 1) (I 33) (J 31 2) (I 7 3) (I 6) = some (k, oj, o0, o1, o2, o3, o4) := by rw [eNa, eNx, eHr, ePn, eWl, eFg]; exact hw
    have hs2 : f_X12_brush a1 (I 75 50) (I 75 3) (I 92) (I 82) (I 91) (I 75 0) = some (b, s0, s1, s2, s3, s4) := by rw [mNa, mF]; exact hs
    refine ok_L_brush_0_107_p (by decide) (zwp_of hw2 ?_)
    refine ⟨k, 7, 19, _, _, rfl, rfl, ?_⟩
    refine ok_X12_brush_75 (by decide) (zwp_of hs2 ?_)
    refine ⟨b, _, _, rfl, rfl, hthr.trans hk.symm, fun h => (hans (hk.symm.trans h)).trans (congrArg Int32.toInt64 hb.symm), ?_⟩
    exact ⟨Or.inl ⟨rfl, rfl⟩, P, hr, pn, wl, nx2, na2, nn, ns, sz, hP, hm, hN2, hD2, hRf2, hNo, hS, hIm, hT, eT1, eT2, eF, eDa, eW, eH, eFg, eSt, eWy, eNs, eNl, eLt, eDb, eGc, eGn, eHc, eHn, eHr, ePn, eWl, eNf, q3, q1, eNn, mW, mH, mF, mNs, mNl, mDb, q2, mNn⟩
  · replace hS : SeatR P ns (I 23) (I 78) := hS
    replace eW : I 19 0 = nI (qW P) := eW
    replace eH : I 19 1 = nI (qH P) := eH
    replace eFg : I 19 3 = nI (qF P) := eFg
    replace eSt : I 21 = qSt P := eSt
    replace eWy : I 22 = qWy P := eWy
    replace eNs : I 19 7 = nI ns := eNs
    replace eNl : I 19 9 = nI (qNl P) := eNl
    replace eLt : I 24 = qLt P := eLt
    replace eDb : I 19 12 = qDb P := eDb
    replace eGc : I 27 = qGc P := eGc
    replace eGn : I 25 2 = nI (qGn P) := eGn
    replace eHc : I 30 = qHc P := eHc
    replace eHn : I 28 2 = nI (qHn P) := eHn
    obtain ⟨⟨r0, r2⟩, hr1, h1, h2⟩ := zwp_get (show zwp (f_X11_brush a1 (nI na) (nI nx) (I 37) (I 32) (I 34) (nI hr) (nI pn) (I 33) (lN wl) (nI (qF P)) (I 6)) _ from cm_brush (mtold := I 93) (mpile := I 94) (vals := I 52) (gst := I 26) (hst := I 29) (mthr := I 75 0) hP hm ⟨hN, hD, hRf⟩)
    obtain ⟨⟨k, oj, o0, o1, o2, o3, o4⟩, hw, hk, hans, ho⟩ := zwp_get (l_brush (m_ar := J 107) (Q := fun x => x = r2) (zwp_of hr1 ⟨h1, rfl⟩))
    dsimp only at ho
    subst ho
    obtain ⟨⟨b, s0, s1, s2, s3, s4⟩, hs, hb, hthr, nx2, na2, q1, q2, q3, hN2, hD2, hRf2⟩ := zwp_get h2
    have hw2 : f_L_brush a1 1 (J 107) (I 36 2) (I 36 1) (I 37) (I 32) (I 34) (I 31 0) (I 31 1) (I 33) (J 31 2) (I 19 3) (I 6) = some (k, oj, o0, o1, o2, o3, o4) := by rw [eNa, eNx, eHr, ePn, eWl, eFg]; exact hw
    have hs2 : f_X12_brush a1 (I 75 50) (I 75 3) (I 92) (I 82) (I 91) (I 75 0) = some (b, s0, s1, s2, s3, s4) := by rw [mNa, mF]; exact hs
    refine ok_L_brush_0_107_q (by decide) (zwp_of hw2 ?_)
    refine ⟨k, 19, 7, _, _, rfl, rfl, ?_⟩
    refine ok_X12_brush_75 (by decide) (zwp_of hs2 ?_)
    refine ⟨b, _, _, rfl, rfl, hthr.trans hk.symm, fun h => (hans (hk.symm.trans h)).trans (congrArg Int32.toInt64 hb.symm), ?_⟩
    exact ⟨Or.inr ⟨rfl, rfl⟩, P, hr, pn, wl, nx2, na2, nn, ns, sz, hP, hm, hN2, hD2, hRf2, hNo, hS, hIm, hT, eT1, eT2, eF, eDa, eW, eH, eFg, eSt, eWy, eNs, eNl, eLt, eDb, eGc, eGn, eHc, eHn, eHr, ePn, eWl, eNf, q3, q1, eNn, mW, mH, mF, mNs, mNl, mDb, q2, mNn⟩
theorem op_wall {p q : Nat} {I : pI} {J : pJ} (H : Inv p q I J) (a1 : Int32) (w : Bool) : OpW 279 227 [.int a1, .int (b2 w)] p q I J := by
  obtain ⟨hpq, P, hr, pn, wl, nx, na, nn, ns, sz, hP, hm, hN, hD, hRf, hNo, hS, hIm, hT, eT1, eT2, eF, eDa, eW, eH, eFg, eSt, eWy, eNs, eNl, eLt, eDb, eGc, eGn, eHc, eHn, eHr, ePn, eWl, eNf, eNx, eNa, eNn, mW, mH, mF, mNs, mNl, mDb, mNa, mNn⟩ := H
  rcases hpq with ⟨rfl, rfl⟩ | ⟨rfl, rfl⟩
  · replace hS : SeatR P ns (I 11) (I 78) := hS
    replace eW : I 7 0 = nI (qW P) := eW
    replace eH : I 7 1 = nI (qH P) := eH
    replace eFg : I 7 3 = nI (qF P) := eFg
    replace eSt : I 9 = qSt P := eSt
    replace eWy : I 10 = qWy P := eWy
    replace eNs : I 7 7 = nI ns := eNs
    replace eNl : I 7 9 = nI (qNl P) := eNl
    replace eLt : I 12 = qLt P := eLt
    replace eDb : I 7 12 = qDb P := eDb
    replace eGc : I 15 = qGc P := eGc
    replace eGn : I 13 2 = nI (qGn P) := eGn
    replace eHc : I 18 = qHc P := eHc
    replace eHn : I 16 2 = nI (qHn P) := eHn
    obtain ⟨⟨r0, r2⟩, hr1, h1, h2⟩ := zwp_get (show zwp (f_X11_wall a1 (b2 w) (nI na) (nI nx) (I 37) (I 32) (nI (qF P)) (I 34) (nI hr) (nI pn) (I 33) (lN wl) (nI (qH P)) (I 11) (nI ns) (nI (qW P)) (I 6)) _ from cm_wall (mtold := I 93) (mpile := I 94) (vals := I 52) (gst := I 14) (hst := I 17) (mthr := I 75 0) hP hm hS ⟨hN, hD, hRf⟩)
    obtain ⟨sp, hsp⟩ : ∃ sp : Option Bool, (cond (okN (qW P * qH P) a1) (some (b2 (!(wl.testBit a1.toNatClampNeg == w) && !anyB (fun f => I 32 f == a1) (qF P) && !anyB (fun s => I 11 s == a1) ns))) none) = sp.map b2 := by
        cases okN (qW P * qH P) a1
        · exact ⟨none, rfl⟩
        · exact ⟨some _, rfl⟩
    rw [hsp] at h1 h2
    dsimp only at h1
    obtain ⟨⟨k, oj, o0, o1, o2, o3, o4⟩, hw, hk, hans, ho⟩ := zwp_get (l_wall (m_ar := J 107) (Q := fun x => x = r2) (zwp_of hr1 ⟨h1, rfl⟩))
    dsimp only at ho
    subst ho
    obtain ⟨⟨b, s0, s1, s2, s3, s4⟩, hs, hb, hthr, nx2, na2, wl2, q1, q2, q3, q4, hN2, hD2, hRf2⟩ := zwp_get h2
    have hw2 : f_L_wall a1 (b2 w) 1 (J 107) (I 36 2) (I 36 1) (I 37) (I 32) (I 31 3) (I 34) (I 31 0) (I 31 1) (I 33) (J 31 2) (I 7 1) (I 11) (I 7 7) (I 7 0) (I 6) = some (k, oj, o0, o1, o2, o3, o4) := by rw [eNa, eNx, eNf, eHr, ePn, eWl, eH, eNs, eW]; exact hw
    have hs2 : f_X12_wall a1 (b2 w) (I 75 50) (I 75 3) (I 92) (I 82) (I 91) (I 78) (I 75 4) (I 75 2) (I 75 0) (I 75 1) = some (b, s0, s1, s2, s3, s4) := by rw [mNa, mF, mNs, mH, mW]; exact hs
    refine ok_L_wall_0_107_p (by decide) (zwp_of hw2 ?_)
    refine ⟨k, 7, 19, _, _, rfl, rfl, ?_⟩
    refine ok_X12_wall_75 (by decide) (zwp_of hs2 ?_)
    refine ⟨b, _, _, rfl, rfl, hthr.trans hk.symm, fun h => (hans (hk.symm.trans h)).trans (congrArg Int32.toInt64 hb.symm), (by rw [show b = _ from hb]; rcases sp with _ | v; exact Or.inl rfl; exact b2_01 v), ?_⟩
    exact ⟨Or.inl ⟨rfl, rfl⟩, P, hr, pn, wl2, nx2, na2, nn, ns, sz, hP, hm, hN2, hD2, hRf2, hNo, hS, hIm, hT, eT1, eT2, eF, eDa, eW, eH, eFg, eSt, eWy, eNs, eNl, eLt, eDb, eGc, eGn, eHc, eHn, eHr, ePn, q4, eNf, q3, q1, eNn, mW, mH, mF, mNs, mNl, mDb, q2, mNn⟩
  · replace hS : SeatR P ns (I 23) (I 78) := hS
    replace eW : I 19 0 = nI (qW P) := eW
    replace eH : I 19 1 = nI (qH P) := eH
    replace eFg : I 19 3 = nI (qF P) := eFg
    replace eSt : I 21 = qSt P := eSt
    replace eWy : I 22 = qWy P := eWy
    replace eNs : I 19 7 = nI ns := eNs
    replace eNl : I 19 9 = nI (qNl P) := eNl
    replace eLt : I 24 = qLt P := eLt
    replace eDb : I 19 12 = qDb P := eDb
    replace eGc : I 27 = qGc P := eGc
    replace eGn : I 25 2 = nI (qGn P) := eGn
    replace eHc : I 30 = qHc P := eHc
    replace eHn : I 28 2 = nI (qHn P) := eHn
    obtain ⟨⟨r0, r2⟩, hr1, h1, h2⟩ := zwp_get (show zwp (f_X11_wall a1 (b2 w) (nI na) (nI nx) (I 37) (I 32) (nI (qF P)) (I 34) (nI hr) (nI pn) (I 33) (lN wl) (nI (qH P)) (I 23) (nI ns) (nI (qW P)) (I 6)) _ from cm_wall (mtold := I 93) (mpile := I 94) (vals := I 52) (gst := I 26) (hst := I 29) (mthr := I 75 0) hP hm hS ⟨hN, hD, hRf⟩)
    obtain ⟨sp, hsp⟩ : ∃ sp : Option Bool, (cond (okN (qW P * qH P) a1) (some (b2 (!(wl.testBit a1.toNatClampNeg == w) && !anyB (fun f => I 32 f == a1) (qF P) && !anyB (fun s => I 23 s == a1) ns))) none) = sp.map b2 := by
        cases okN (qW P * qH P) a1
        · exact ⟨none, rfl⟩
        · exact ⟨some _, rfl⟩
    rw [hsp] at h1 h2
    dsimp only at h1
    obtain ⟨⟨k, oj, o0, o1, o2, o3, o4⟩, hw, hk, hans, ho⟩ := zwp_get (l_wall (m_ar := J 107) (Q := fun x => x = r2) (zwp_of hr1 ⟨h1, rfl⟩))
    dsimp only at ho
    subst ho
    obtain ⟨⟨b, s0, s1, s2, s3, s4⟩, hs, hb, hthr, nx2, na2, wl2, q1, q2, q3, q4, hN2, hD2, hRf2⟩ := zwp_get h2
    have hw2 : f_L_wall a1 (b2 w) 1 (J 107) (I 36 2) (I 36 1) (I 37) (I 32) (I 31 3) (I 34) (I 31 0) (I 31 1) (I 33) (J 31 2) (I 19 1) (I 23) (I 19 7) (I 19 0) (I 6) = some (k, oj, o0, o1, o2, o3, o4) := by rw [eNa, eNx, eNf, eHr, ePn, eWl, eH, eNs, eW]; exact hw
    have hs2 : f_X12_wall a1 (b2 w) (I 75 50) (I 75 3) (I 92) (I 82) (I 91) (I 78) (I 75 4) (I 75 2) (I 75 0) (I 75 1) = some (b, s0, s1, s2, s3, s4) := by rw [mNa, mF, mNs, mH, mW]; exact hs
    refine ok_L_wall_0_107_q (by decide) (zwp_of hw2 ?_)
    refine ⟨k, 19, 7, _, _, rfl, rfl, ?_⟩
    refine ok_X12_wall_75 (by decide) (zwp_of hs2 ?_)
    refine ⟨b, _, _, rfl, rfl, hthr.trans hk.symm, fun h => (hans (hk.symm.trans h)).trans (congrArg Int32.toInt64 hb.symm), (by rw [show b = _ from hb]; rcases sp with _ | v; exact Or.inl rfl; exact b2_01 v), ?_⟩
    exact ⟨Or.inr ⟨rfl, rfl⟩, P, hr, pn, wl2, nx2, na2, nn, ns, sz, hP, hm, hN2, hD2, hRf2, hNo, hS, hIm, hT, eT1, eT2, eF, eDa, eW, eH, eFg, eSt, eWy, eNs, eNl, eLt, eDb, eGc, eGn, eHc, eHn, eHr, ePn, q4, eNf, q3, q1, eNn, mW, mH, mF, mNs, mNl, mDb, q2, mNn⟩
theorem op_note {p q : Nat} {I : pI} {J : pJ} (H : Inv p q I J) (a1 a2 a3 : Int32) : OpH 290 251 [.int a1, .int a2, .int a3] p q I J := by
  obtain ⟨hpq, P, hr, pn, wl, nx, na, nn, ns, sz, hP, hm, hN, hD, hRf, hNo, hS, hIm, hT, eT1, eT2, eF, eDa, eW, eH, eFg, eSt, eWy, eNs, eNl, eLt, eDb, eGc, eGn, eHc, eHn, eHr, ePn, eWl, eNf, eNx, eNa, eNn, mW, mH, mF, mNs, mNl, mDb, mNa, mNn⟩ := H
  rcases hpq with ⟨rfl, rfl⟩ | ⟨rfl, rfl⟩
  · replace hS : SeatR P ns (I 11) (I 78) := hS
    replace eW : I 7 0 = nI (qW P) := eW
    replace eH : I 7 1 = nI (qH P) := eH
    replace eFg : I 7 3 = nI (qF P) := eFg
    replace eSt : I 9 = qSt P := eSt
    replace eWy : I 10 = qWy P := eWy
    replace eNs : I 7 7 = nI ns := eNs
    replace eNl : I 7 9 = nI (qNl P) := eNl
    replace eLt : I 12 = qLt P := eLt
    replace eDb : I 7 12 = qDb P := eDb
    replace eGc : I 15 = qGc P := eGc
    replace eGn : I 13 2 = nI (qGn P) := eGn
    replace eHc : I 18 = qHc P := eHc
    replace eHn : I 16 2 = nI (qHn P) := eHn
    obtain ⟨⟨r0, r2⟩, hr1, h1, h2⟩ := zwp_get (show zwp (f_X11_note a1 a2 a3 (I 39) (I 38) (I 40) (nI nn) (nI (qF P)) (nI (qH P)) (nI (qW P)) (I 6)) _ from cm_note (mthr := I 75 0) hP hNo hRf)
    obtain ⟨⟨k, oj, o0, o1, o2, o3, o4⟩, hw, hk, hans, ho⟩ := zwp_get (l_note (m_ar := J 107) (Q := fun x => x = r2) (zwp_of hr1 ⟨h1, rfl⟩))
    dsimp only at ho
    subst ho
    obtain ⟨⟨b, s0, s1, s2, s3⟩, hs, hb, hthr, nn2, q1, q2, hNo2, hRf2⟩ := zwp_get h2
    have hw2 : f_L_note a1 a2 a3 1 (J 107) (I 39) (I 38) (I 40) (I 36 3) (I 7 3) (I 7 1) (I 7 0) (I 6) = some (k, oj, o0, o1, o2, o3, o4) := by rw [eNn, eFg, eH, eW]; exact hw
    have hs2 : f_X12_note a1 a2 a3 (I 75 3) (I 101) (I 75 60) (I 82) (I 75 2) (I 75 0) (I 75 1) = some (b, s0, s1, s2, s3) := by rw [mF, mNn, mH, mW]; exact hs
    refine ok_L_note_0_107_p (by decide) (zwp_of hw2 ?_)
    refine ⟨k, 7, 19, _, _, rfl, rfl, ?_⟩
    refine ok_X12_note_75 (by decide) (zwp_of hs2 ?_)
    refine ⟨b, _, _, rfl, rfl, hthr.trans hk.symm, fun h => (hans (hk.symm.trans h)).trans (congrArg Int32.toInt64 hb.symm), ?_⟩
    exact ⟨Or.inl ⟨rfl, rfl⟩, P, hr, pn, wl, nx, na, nn2, ns, sz, hP, hm, hN, hD, hRf2, hNo2, hS, hIm, hT, eT1, eT2, eF, eDa, eW, eH, eFg, eSt, eWy, eNs, eNl, eLt, eDb, eGc, eGn, eHc, eHn, eHr, ePn, eWl, eNf, eNx, eNa, q1, mW, mH, mF, mNs, mNl, mDb, mNa, q2⟩
  · replace hS : SeatR P ns (I 23) (I 78) := hS
    replace eW : I 19 0 = nI (qW P) := eW
    replace eH : I 19 1 = nI (qH P) := eH
    replace eFg : I 19 3 = nI (qF P) := eFg
    replace eSt : I 21 = qSt P := eSt
    replace eWy : I 22 = qWy P := eWy
    replace eNs : I 19 7 = nI ns := eNs
    replace eNl : I 19 9 = nI (qNl P) := eNl
    replace eLt : I 24 = qLt P := eLt
    replace eDb : I 19 12 = qDb P := eDb
    replace eGc : I 27 = qGc P := eGc
    replace eGn : I 25 2 = nI (qGn P) := eGn
    replace eHc : I 30 = qHc P := eHc
    replace eHn : I 28 2 = nI (qHn P) := eHn
    obtain ⟨⟨r0, r2⟩, hr1, h1, h2⟩ := zwp_get (show zwp (f_X11_note a1 a2 a3 (I 39) (I 38) (I 40) (nI nn) (nI (qF P)) (nI (qH P)) (nI (qW P)) (I 6)) _ from cm_note (mthr := I 75 0) hP hNo hRf)
    obtain ⟨⟨k, oj, o0, o1, o2, o3, o4⟩, hw, hk, hans, ho⟩ := zwp_get (l_note (m_ar := J 107) (Q := fun x => x = r2) (zwp_of hr1 ⟨h1, rfl⟩))
    dsimp only at ho
    subst ho
    obtain ⟨⟨b, s0, s1, s2, s3⟩, hs, hb, hthr, nn2, q1, q2, hNo2, hRf2⟩ := zwp_get h2
    have hw2 : f_L_note a1 a2 a3 1 (J 107) (I 39) (I 38) (I 40) (I 36 3) (I 19 3) (I 19 1) (I 19 0) (I 6) = some (k, oj, o0, o1, o2, o3, o4) := by rw [eNn, eFg, eH, eW]; exact hw
    have hs2 : f_X12_note a1 a2 a3 (I 75 3) (I 101) (I 75 60) (I 82) (I 75 2) (I 75 0) (I 75 1) = some (b, s0, s1, s2, s3) := by rw [mF, mNn, mH, mW]; exact hs
    refine ok_L_note_0_107_q (by decide) (zwp_of hw2 ?_)
    refine ⟨k, 19, 7, _, _, rfl, rfl, ?_⟩
    refine ok_X12_note_75 (by decide) (zwp_of hs2 ?_)
    refine ⟨b, _, _, rfl, rfl, hthr.trans hk.symm, fun h => (hans (hk.symm.trans h)).trans (congrArg Int32.toInt64 hb.symm), ?_⟩
    exact ⟨Or.inr ⟨rfl, rfl⟩, P, hr, pn, wl, nx, na, nn2, ns, sz, hP, hm, hN, hD, hRf2, hNo2, hS, hIm, hT, eT1, eT2, eF, eDa, eW, eH, eFg, eSt, eWy, eNs, eNl, eLt, eDb, eGc, eGn, eHc, eHn, eHr, ePn, eWl, eNf, eNx, eNa, q1, mW, mH, mF, mNs, mNl, mDb, mNa, q2⟩
theorem op_feed {p q : Nat} {I : pI} {J : pJ} (H : Inv p q I J) (a1 a2 a3 a4 a5 : Int32) : OpD 97 159 [.int a1, .int a2, .int a3, .int a4, .int a5] p q I J := by
  obtain ⟨hpq, P, hr, pn, wl, nx, na, nn, ns, sz, hP, hm, hN, hD, hRf, hNo, hS, hIm, hT, eT1, eT2, eF, eDa, eW, eH, eFg, eSt, eWy, eNs, eNl, eLt, eDb, eGc, eGn, eHc, eHn, eHr, ePn, eWl, eNf, eNx, eNa, eNn, mW, mH, mF, mNs, mNl, mDb, mNa, mNn⟩ := H
  rcases hpq with ⟨rfl, rfl⟩ | ⟨rfl, rfl⟩
  · replace hS : SeatR P ns (I 11) (I 78) := hS
    replace eW : I 7 0 = nI (qW P) := eW
    replace eH : I 7 1 = nI (qH P) := eH
    replace eFg : I 7 3 = nI (qF P) := eFg
    replace eSt : I 9 = qSt P := eSt
    replace eWy : I 10 = qWy P := eWy
    replace eNs : I 7 7 = nI ns := eNs
    replace eNl : I 7 9 = nI (qNl P) := eNl
    replace eLt : I 12 = qLt P := eLt
    replace eDb : I 7 12 = qDb P := eDb
    replace eGc : I 15 = qGc P := eGc
    replace eGn : I 13 2 = nI (qGn P) := eGn
    replace eHc : I 18 = qHc P := eHc
    replace eHn : I 16 2 = nI (qHn P) := eHn
    obtain ⟨⟨r, o0, o1⟩, hr1, h2⟩ := zwp_get (show zwp (f_X11_feed a1 a2 a3 a4 a5 (I 2) (nI sz)) _ from cm_feed (mthr := I 75 0) hT)
    obtain ⟨⟨b, s0, s1, s2⟩, hs, ha, -, sz2, q1, q2, hT2⟩ := zwp_get h2
    have hfr : f_X11_feed a1 a2 a3 a4 a5 (I 2) (I 1 1) = some (r, o0, o1) := by rw [eT1]; exact hr1
    have hs2 : f_X12_feed a1 a2 a3 a4 a5 (I 81) (I 75 15) (I 75 0) = some (b, s0, s1, s2) := by rw [eT2]; exact hs
    refine ok_X11_feed_0 (by decide) (zwp_of hfr ?_)
    refine ⟨_, _, _, rfl, rfl, ?_⟩
    refine ok_X12_feed_75 (by decide) (zwp_of hs2 ?_)
    refine ⟨_, _, congrArg (fun x => Sum.inl (some (Value.int x))) (ha.symm), rfl, ?_⟩
    exact ⟨Or.inl ⟨rfl, rfl⟩, P, hr, pn, wl, nx, na, nn, ns, sz2, hP, hm, hN, hD, hRf, hNo, hS, hIm, hT2, q1, q2, eF, eDa, eW, eH, eFg, eSt, eWy, eNs, eNl, eLt, eDb, eGc, eGn, eHc, eHn, eHr, ePn, eWl, eNf, eNx, eNa, eNn, mW, mH, mF, mNs, mNl, mDb, mNa, mNn⟩
  · replace hS : SeatR P ns (I 23) (I 78) := hS
    replace eW : I 19 0 = nI (qW P) := eW
    replace eH : I 19 1 = nI (qH P) := eH
    replace eFg : I 19 3 = nI (qF P) := eFg
    replace eSt : I 21 = qSt P := eSt
    replace eWy : I 22 = qWy P := eWy
    replace eNs : I 19 7 = nI ns := eNs
    replace eNl : I 19 9 = nI (qNl P) := eNl
    replace eLt : I 24 = qLt P := eLt
    replace eDb : I 19 12 = qDb P := eDb
    replace eGc : I 27 = qGc P := eGc
    replace eGn : I 25 2 = nI (qGn P) := eGn
    replace eHc : I 30 = qHc P := eHc
    replace eHn : I 28 2 = nI (qHn P) := eHn
    obtain ⟨⟨r, o0, o1⟩, hr1, h2⟩ := zwp_get (show zwp (f_X11_feed a1 a2 a3 a4 a5 (I 2) (nI sz)) _ from cm_feed (mthr := I 75 0) hT)
    obtain ⟨⟨b, s0, s1, s2⟩, hs, ha, -, sz2, q1, q2, hT2⟩ := zwp_get h2
    have hfr : f_X11_feed a1 a2 a3 a4 a5 (I 2) (I 1 1) = some (r, o0, o1) := by rw [eT1]; exact hr1
    have hs2 : f_X12_feed a1 a2 a3 a4 a5 (I 81) (I 75 15) (I 75 0) = some (b, s0, s1, s2) := by rw [eT2]; exact hs
    refine ok_X11_feed_0 (by decide) (zwp_of hfr ?_)
    refine ⟨_, _, _, rfl, rfl, ?_⟩
    refine ok_X12_feed_75 (by decide) (zwp_of hs2 ?_)
    refine ⟨_, _, congrArg (fun x => Sum.inl (some (Value.int x))) (ha.symm), rfl, ?_⟩
    exact ⟨Or.inr ⟨rfl, rfl⟩, P, hr, pn, wl, nx, na, nn, ns, sz2, hP, hm, hN, hD, hRf, hNo, hS, hIm, hT2, q1, q2, eF, eDa, eW, eH, eFg, eSt, eWy, eNs, eNl, eLt, eDb, eGc, eGn, eHc, eHn, eHr, ePn, eWl, eNf, eNx, eNa, eNn, mW, mH, mF, mNs, mNl, mDb, mNa, mNn⟩
theorem op_fault {p q : Nat} {I : pI} {J : pJ} (H : Inv p q I J)  : OpD 99 192 [] p q I J := by
  obtain ⟨hpq, P, hr, pn, wl, nx, na, nn, ns, sz, hP, hm, hN, hD, hRf, hNo, hS, hIm, hT, eT1, eT2, eF, eDa, eW, eH, eFg, eSt, eWy, eNs, eNl, eLt, eDb, eGc, eGn, eHc, eHn, eHr, ePn, eWl, eNf, eNx, eNa, eNn, mW, mH, mF, mNs, mNl, mDb, mNa, mNn⟩ := H
  rcases hpq with ⟨rfl, rfl⟩ | ⟨rfl, rfl⟩
  · replace hS : SeatR P ns (I 11) (I 78) := hS
    replace eW : I 7 0 = nI (qW P) := eW
    replace eH : I 7 1 = nI (qH P) := eH
    replace eFg : I 7 3 = nI (qF P) := eFg
    replace eSt : I 9 = qSt P := eSt
    replace eWy : I 10 = qWy P := eWy
    replace eNs : I 7 7 = nI ns := eNs
    replace eNl : I 7 9 = nI (qNl P) := eNl
    replace eLt : I 12 = qLt P := eLt
    replace eDb : I 7 12 = qDb P := eDb
    replace eGc : I 15 = qGc P := eGc
    replace eGn : I 13 2 = nI (qGn P) := eGn
    replace eHc : I 18 = qHc P := eHc
    replace eHn : I 16 2 = nI (qHn P) := eHn
    have hfr : f_X11_fault (I 0 2) = some (I 0 2) := rfl
    have hs2 : f_X12_fault (I 75 17) (I 75 0) = some (I 75 17, 0) := rfl
    refine ok_X11_fault_0 (by decide) (zwp_of hfr ?_)
    refine ⟨_, _, _, rfl, rfl, ?_⟩
    refine ok_X12_fault_75 (by decide) (zwp_of hs2 ?_)
    refine ⟨_, _, congrArg (fun x => Sum.inl (some (Value.int x))) (eF.symm), rfl, ?_⟩
    exact ⟨Or.inl ⟨rfl, rfl⟩, P, hr, pn, wl, nx, na, nn, ns, sz, hP, hm, hN, hD, hRf, hNo, hS, hIm, hT, eT1, eT2, eF, eDa, eW, eH, eFg, eSt, eWy, eNs, eNl, eLt, eDb, eGc, eGn, eHc, eHn, eHr, ePn, eWl, eNf, eNx, eNa, eNn, mW, mH, mF, mNs, mNl, mDb, mNa, mNn⟩
  · replace hS : SeatR P ns (I 23) (I 78) := hS
    replace eW : I 19 0 = nI (qW P) := eW
    replace eH : I 19 1 = nI (qH P) := eH
    replace eFg : I 19 3 = nI (qF P) := eFg
    replace eSt : I 21 = qSt P := eSt
    replace eWy : I 22 = qWy P := eWy
    replace eNs : I 19 7 = nI ns := eNs
    replace eNl : I 19 9 = nI (qNl P) := eNl
    replace eLt : I 24 = qLt P := eLt
    replace eDb : I 19 12 = qDb P := eDb
    replace eGc : I 27 = qGc P := eGc
    replace eGn : I 25 2 = nI (qGn P) := eGn
    replace eHc : I 30 = qHc P := eHc
    replace eHn : I 28 2 = nI (qHn P) := eHn
    have hfr : f_X11_fault (I 0 2) = some (I 0 2) := rfl
    have hs2 : f_X12_fault (I 75 17) (I 75 0) = some (I 75 17, 0) := rfl
    refine ok_X11_fault_0 (by decide) (zwp_of hfr ?_)
    refine ⟨_, _, _, rfl, rfl, ?_⟩
    refine ok_X12_fault_75 (by decide) (zwp_of hs2 ?_)
    refine ⟨_, _, congrArg (fun x => Sum.inl (some (Value.int x))) (eF.symm), rfl, ?_⟩
    exact ⟨Or.inr ⟨rfl, rfl⟩, P, hr, pn, wl, nx, na, nn, ns, sz, hP, hm, hN, hD, hRf, hNo, hS, hIm, hT, eT1, eT2, eF, eDa, eW, eH, eFg, eSt, eWy, eNs, eNl, eLt, eDb, eGc, eGn, eHc, eHn, eHr, ePn, eWl, eNf, eNx, eNa, eNn, mW, mH, mF, mNs, mNl, mDb, mNa, mNn⟩
theorem op_hours {p q : Nat} {I : pI} {J : pJ} (H : Inv p q I J) (a1 : Int32) : OpD 103 223 [.int a1] p q I J := by
  obtain ⟨hpq, P, hr, pn, wl, nx, na, nn, ns, sz, hP, hm, hN, hD, hRf, hNo, hS, hIm, hT, eT1, eT2, eF, eDa, eW, eH, eFg, eSt, eWy, eNs, eNl, eLt, eDb, eGc, eGn, eHc, eHn, eHr, ePn, eWl, eNf, eNx, eNa, eNn, mW, mH, mF, mNs, mNl, mDb, mNa, mNn⟩ := H
  rcases hpq with ⟨rfl, rfl⟩ | ⟨rfl, rfl⟩
  · replace hS : SeatR P ns (I 11) (I 78) := hS
    replace eW : I 7 0 = nI (qW P) := eW
    replace eH : I 7 1 = nI (qH P) := eH
    replace eFg : I 7 3 = nI (qF P) := eFg
    replace eSt : I 9 = qSt P := eSt
    replace eWy : I 10 = qWy P := eWy
    replace eNs : I 7 7 = nI ns := eNs
    replace eNl : I 7 9 = nI (qNl P) := eNl
    replace eLt : I 12 = qLt P := eLt
    replace eDb : I 7 12 = qDb P := eDb
    replace eGc : I 15 = qGc P := eGc
    replace eGn : I 13 2 = nI (qGn P) := eGn
    replace eHc : I 18 = qHc P := eHc
    replace eHn : I 16 2 = nI (qHn P) := eHn
    obtain ⟨⟨r, o0, o1, o2, o3, o4, o5, o6, o7, o8, o9, o10⟩, hr1, h2⟩ := zwp_get (show zwp (f_X11_hours a1 (nI na) (nI nx) (I 37) (I 52) (I 32) (nI (qF P)) (I 34) (nI hr) (I 35) (nI pn) (I 33) (lN wl) (qDb P) (nI (qF P)) (qGc P) (nI (qGn P)) (I 14) (nI (qH P)) (qHc P) (nI (qHn P)) (I 17) (qLt P) (nI (qNl P)) (qSt P) (qWy P) (nI (qW P)) (I 6)) _ from cm_hours (mtold := I 93) (mpile := I 94) (vals := I 52) (gst := I 14) (hst := I 17) (mthr := I 75 0) hP hm ⟨hN, hD, hRf⟩)
    obtain ⟨⟨b, s0, s1, s2, s3, s4, s5, s6⟩, hs, ha, -, nx2, na2, hr2, q1, q2, q3, q4, hN2, hD2, hRf2⟩ := zwp_get h2
    have hfr : f_X11_hours a1 (I 36 2) (I 36 1) (I 37) (I 52) (I 32) (I 31 3) (I 34) (I 31 0) (I 35) (I 31 1) (I 33) (J 31 2) (I 7 12) (I 7 3) (I 15) (I 13 2) (I 14) (I 7 1) (I 18) (I 16 2) (I 17) (I 12) (I 7 9) (I 9) (I 10) (I 7 0) (I 6) = some (r, o0, o1, o2, o3, o4, o5, o6, o7, o8, o9, o10) := by rw [eNa, eNx, eNf, eHr, ePn, eWl, eDb, eFg, eGc, eGn, eH, eHc, eHn, eLt, eNl, eSt, eWy, eW]; exact hr1
    have hs2 : f_X12_hours a1 (I 75 50) (I 80) (I 75 6) (I 75 53) (I 75 3) (I 75 7) (I 75 8) (I 92) (I 79) (I 75 5) (I 94) (I 82) (I 91) (I 75 2) (I 75 0) (I 93) (I 76) (I 77) (I 75 1) = some (b, s0, s1, s2, s3, s4, s5, s6) := by rw [mNa, mDb, eDa, mF, mNl, mH, mW]; exact hs
    refine ok_X11_hours_0_p (by decide) (zwp_of hfr ?_)
    refine ⟨_, _, _, rfl, rfl, ?_⟩
    refine ok_X12_hours_75 (by decide) (zwp_of hs2 ?_)
    refine ⟨_, _, congrArg (fun x => Sum.inl (some (Value.int x))) (ha), rfl, ?_⟩
    exact ⟨Or.inl ⟨rfl, rfl⟩, P, hr2, pn, wl, nx2, na2, nn, ns, sz, hP, hm, hN2, hD2, hRf2, hNo, hS, hIm, hT, eT1, eT2, eF, eDa, eW, eH, eFg, eSt, eWy, eNs, eNl, eLt, eDb, eGc, eGn, eHc, eHn, q4, ePn, eWl, eNf, q3, q1, eNn, mW, mH, mF, mNs, mNl, mDb, q2, mNn⟩
  · replace hS : SeatR P ns (I 23) (I 78) := hS
    replace eW : I 19 0 = nI (qW P) := eW
    replace eH : I 19 1 = nI (qH P) := eH
    replace eFg : I 19 3 = nI (qF P) := eFg
    replace eSt : I 21 = qSt P := eSt
    replace eWy : I 22 = qWy P := eWy
    replace eNs : I 19 7 = nI ns := eNs
    replace eNl : I 19 9 = nI (qNl P) := eNl
    replace eLt : I 24 = qLt P := eLt
    replace eDb : I 19 12 = qDb P := eDb
    replace eGc : I 27 = qGc P := eGc
    replace eGn : I 25 2 = nI (qGn P) := eGn
    replace eHc : I 30 = qHc P := eHc
    replace eHn : I 28 2 = nI (qHn P) := eHn
    obtain ⟨⟨r, o0, o1, o2, o3, o4, o5, o6, o7, o8, o9, o10⟩, hr1, h2⟩ := zwp_get (show zwp (f_X11_hours a1 (nI na) (nI nx) (I 37) (I 52) (I 32) (nI (qF P)) (I 34) (nI hr) (I 35) (nI pn) (I 33) (lN wl) (qDb P) (nI (qF P)) (qGc P) (nI (qGn P)) (I 26) (nI (qH P)) (qHc P) (nI (qHn P)) (I 29) (qLt P) (nI (qNl P)) (qSt P) (qWy P) (nI (qW P)) (I 6)) _ from cm_hours (mtold := I 93) (mpile := I 94) (vals := I 52) (gst := I 26) (hst := I 29) (mthr := I 75 0) hP hm ⟨hN, hD, hRf⟩)
    obtain ⟨⟨b, s0, s1, s2, s3, s4, s5, s6⟩, hs, ha, -, nx2, na2, hr2, q1, q2, q3, q4, hN2, hD2, hRf2⟩ := zwp_get h2
    have hfr : f_X11_hours a1 (I 36 2) (I 36 1) (I 37) (I 52) (I 32) (I 31 3) (I 34) (I 31 0) (I 35) (I 31 1) (I 33) (J 31 2) (I 19 12) (I 19 3) (I 27) (I 25 2) (I 26) (I 19 1) (I 30) (I 28 2) (I 29) (I 24) (I 19 9) (I 21) (I 22) (I 19 0) (I 6) = some (r, o0, o1, o2, o3, o4, o5, o6, o7, o8, o9, o10) := by rw [eNa, eNx, eNf, eHr, ePn, eWl, eDb, eFg, eGc, eGn, eH, eHc, eHn, eLt, eNl, eSt, eWy, eW]; exact hr1
    have hs2 : f_X12_hours a1 (I 75 50) (I 80) (I 75 6) (I 75 53) (I 75 3) (I 75 7) (I 75 8) (I 92) (I 79) (I 75 5) (I 94) (I 82) (I 91) (I 75 2) (I 75 0) (I 93) (I 76) (I 77) (I 75 1) = some (b, s0, s1, s2, s3, s4, s5, s6) := by rw [mNa, mDb, eDa, mF, mNl, mH, mW]; exact hs
    refine ok_X11_hours_0_q (by decide) (zwp_of hfr ?_)
    refine ⟨_, _, _, rfl, rfl, ?_⟩
    refine ok_X12_hours_75 (by decide) (zwp_of hs2 ?_)
    refine ⟨_, _, congrArg (fun x => Sum.inl (some (Value.int x))) (ha), rfl, ?_⟩
    exact ⟨Or.inr ⟨rfl, rfl⟩, P, hr2, pn, wl, nx2, na2, nn, ns, sz, hP, hm, hN2, hD2, hRf2, hNo, hS, hIm, hT, eT1, eT2, eF, eDa, eW, eH, eFg, eSt, eWy, eNs, eNl, eLt, eDb, eGc, eGn, eHc, eHn, q4, ePn, eWl, eNf, q3, q1, eNn, mW, mH, mF, mNs, mNl, mDb, q2, mNn⟩
theorem op_undo {p q : Nat} {I : pI} {J : pJ} (H : Inv p q I J)  : OpD 108 195 [] p q I J := by
  obtain ⟨hpq, P, hr, pn, wl, nx, na, nn, ns, sz, hP, hm, hN, hD, hRf, hNo, hS, hIm, hT, eT1, eT2, eF, eDa, eW, eH, eFg, eSt, eWy, eNs, eNl, eLt, eDb, eGc, eGn, eHc, eHn, eHr, ePn, eWl, eNf, eNx, eNa, eNn, mW, mH, mF, mNs, mNl, mDb, mNa, mNn⟩ := H
  rcases hpq with ⟨rfl, rfl⟩ | ⟨rfl, rfl⟩
  · replace hS : SeatR P ns (I 11) (I 78) := hS
    replace eW : I 7 0 = nI (qW P) := eW
    replace eH : I 7 1 = nI (qH P) := eH
    replace eFg : I 7 3 = nI (qF P) := eFg
    replace eSt : I 9 = qSt P := eSt
    replace eWy : I 10 = qWy P := eWy
    replace eNs : I 7 7 = nI ns := eNs
    replace eNl : I 7 9 = nI (qNl P) := eNl
    replace eLt : I 12 = qLt P := eLt
    replace eDb : I 7 12 = qDb P := eDb
    replace eGc : I 15 = qGc P := eGc
    replace eGn : I 13 2 = nI (qGn P) := eGn
    replace eHc : I 18 = qHc P := eHc
    replace eHn : I 16 2 = nI (qHn P) := eHn
    obtain ⟨⟨r, o0, o1, o2, o3, o4, o5, o6, o7⟩, hr1, h2⟩ := zwp_get (show zwp (f_X11_undo (nI na) (nI nx) (I 37) (I 32) (I 34) (nI hr) (nI pn) (I 33) (lN wl)) _ from cm_undo (mtold := I 93) (mpile := I 94) (vals := I 52) (gst := I 14) (hst := I 17) (mthr := I 75 0) hP hm ⟨hN, hD, hRf⟩)
    obtain ⟨⟨b, s0, s1, s2⟩, hs, ha, -, nx2, na2, hr2, pn2, wl2, q1, q2, q3, q4, q5, q6, hN2, hD2, hRf2⟩ := zwp_get h2
    have hfr : f_X11_undo (I 36 2) (I 36 1) (I 37) (I 32) (I 34) (I 31 0) (I 31 1) (I 33) (J 31 2) = some (r, o0, o1, o2, o3, o4, o5, o6, o7) := by rw [eNa, eNx, eHr, ePn, eWl]; exact hr1
    have hs2 : f_X12_undo (I 75 50) (I 92) (I 91) (I 75 0) = some (b, s0, s1, s2) := by rw [mNa]; exact hs
    refine ok_X11_undo_0 (by decide) (zwp_of hfr ?_)
    refine ⟨_, _, _, rfl, rfl, ?_⟩
    refine ok_X12_undo_75 (by decide) (zwp_of hs2 ?_)
    refine ⟨_, _, congrArg (fun x => Sum.inl (some (Value.int x))) (ha), rfl, ?_⟩
    exact ⟨Or.inl ⟨rfl, rfl⟩, P, hr2, pn2, wl2, nx2, na2, nn, ns, sz, hP, hm, hN2, hD2, hRf2, hNo, hS, hIm, hT, eT1, eT2, eF, eDa, eW, eH, eFg, eSt, eWy, eNs, eNl, eLt, eDb, eGc, eGn, eHc, eHn, q4, q5, q6, eNf, q3, q1, eNn, mW, mH, mF, mNs, mNl, mDb, q2, mNn⟩
  · replace hS : SeatR P ns (I 23) (I 78) := hS
    replace eW : I 19 0 = nI (qW P) := eW
    replace eH : I 19 1 = nI (qH P) := eH
    replace eFg : I 19 3 = nI (qF P) := eFg
    replace eSt : I 21 = qSt P := eSt
    replace eWy : I 22 = qWy P := eWy
    replace eNs : I 19 7 = nI ns := eNs
    replace eNl : I 19 9 = nI (qNl P) := eNl
    replace eLt : I 24 = qLt P := eLt
    replace eDb : I 19 12 = qDb P := eDb
    replace eGc : I 27 = qGc P := eGc
    replace eGn : I 25 2 = nI (qGn P) := eGn
    replace eHc : I 30 = qHc P := eHc
    replace eHn : I 28 2 = nI (qHn P) := eHn
    obtain ⟨⟨r, o0, o1, o2, o3, o4, o5, o6, o7⟩, hr1, h2⟩ := zwp_get (show zwp (f_X11_undo (nI na) (nI nx) (I 37) (I 32) (I 34) (nI hr) (nI pn) (I 33) (lN wl)) _ from cm_undo (mtold := I 93) (mpile := I 94) (vals := I 52) (gst := I 26) (hst := I 29) (mthr := I 75 0) hP hm ⟨hN, hD, hRf⟩)
    obtain ⟨⟨b, s0, s1, s2⟩, hs, ha, -, nx2, na2, hr2, pn2, wl2, q1, q2, q3, q4, q5, q6, hN2, hD2, hRf2⟩ := zwp_get h2
    have hfr : f_X11_undo (I 36 2) (I 36 1) (I 37) (I 32) (I 34) (I 31 0) (I 31 1) (I 33) (J 31 2) = some (r, o0, o1, o2, o3, o4, o5, o6, o7) := by rw [eNa, eNx, eHr, ePn, eWl]; exact hr1
    have hs2 : f_X12_undo (I 75 50) (I 92) (I 91) (I 75 0) = some (b, s0, s1, s2) := by rw [mNa]; exact hs
    refine ok_X11_undo_0 (by decide) (zwp_of hfr ?_)
    refine ⟨_, _, _, rfl, rfl, ?_⟩
    refine ok_X12_undo_75 (by decide) (zwp_of hs2 ?_)
    refine ⟨_, _, congrArg (fun x => Sum.inl (some (Value.int x))) (ha), rfl, ?_⟩
    exact ⟨Or.inr ⟨rfl, rfl⟩, P, hr2, pn2, wl2, nx2, na2, nn, ns, sz, hP, hm, hN2, hD2, hRf2, hNo, hS, hIm, hT, eT1, eT2, eF, eDa, eW, eH, eFg, eSt, eWy, eNs, eNl, eLt, eDb, eGc, eGn, eHc, eHn, q4, q5, q6, eNf, q3, q1, eNn, mW, mH, mF, mNs, mNl, mDb, q2, mNn⟩
theorem op_round {p q : Nat} {I : pI} {J : pJ} (H : Inv p q I J)  : OpD 113 237 [] p q I J := by
  obtain ⟨hpq, P, hr, pn, wl, nx, na, nn, ns, sz, hP, hm, hN, hD, hRf, hNo, hS, hIm, hT, eT1, eT2, eF, eDa, eW, eH, eFg, eSt, eWy, eNs, eNl, eLt, eDb, eGc, eGn, eHc, eHn, eHr, ePn, eWl, eNf, eNx, eNa, eNn, mW, mH, mF, mNs, mNl, mDb, mNa, mNn⟩ := H
  rcases hpq with ⟨rfl, rfl⟩ | ⟨rfl, rfl⟩
  · replace hS : SeatR P ns (I 11) (I 78) := hS
    replace eW : I 7 0 = nI (qW P) := eW
    replace eH : I 7 1 = nI (qH P) := eH
    replace eFg : I 7 3 = nI (qF P) := eFg
    replace eSt : I 9 = qSt P := eSt
    replace eWy : I 10 = qWy P := eWy
    replace eNs : I 7 7 = nI ns := eNs
    replace eNl : I 7 9 = nI (qNl P) := eNl
    replace eLt : I 12 = qLt P := eLt
    replace eDb : I 7 12 = qDb P := eDb
    replace eGc : I 15 = qGc P := eGc
    replace eGn : I 13 2 = nI (qGn P) := eGn
    replace eHc : I 18 = qHc P := eHc
    replace eHn : I 16 2 = nI (qHn P) := eHn
    obtain ⟨⟨r, o0, o1, o2, o3, o4, o5, o6, o7, o8, o9, o10⟩, hr1, h1⟩ := zwp_get (show zwp (f_X11_round (I 54) (I 53 3) (I 56) (I 53 0) (I 57) (I 53 1) (I 55) (J 53 2) (I 52) (I 32) (nI (qF P)) (I 34) (nI hr) (I 35) (nI pn) (I 33) (lN wl) (qDb P) (nI (qF P)) (qGc P) (nI (qGn P)) (I 14) (nI (qH P)) (qHc P) (nI (qHn P)) (I 17) (qLt P) (nI (qNl P)) (qSt P) (qWy P) (nI (qW P))) _ from c_round hP hN)
    obtain ⟨⟨b, s0, s1, s2, s3⟩, hs, h3, -, hrw⟩ := zwp_get (show zwp (f_X12_round (I 80) (qDb P) (-1) (nI (qF P)) (I 75 7) (I 75 8) (I 79) (nI (qNl P)) (I 94) (I 91) (nI (qH P)) (I 75 0) (I 93) (I 76) (I 77) (nI (qW P))) _ from m_round (fcell := I 54) (fsore := I 55) (fheld := I 56) hP hm hN)
    have ha : b = r := h3.trans h1.symm
    have hfr : f_X11_round (I 54) (I 53 3) (I 56) (I 53 0) (I 57) (I 53 1) (I 55) (J 53 2) (I 52) (I 32) (I 31 3) (I 34) (I 31 0) (I 35) (I 31 1) (I 33) (J 31 2) (I 7 12) (I 7 3) (I 15) (I 13 2) (I 14) (I 7 1) (I 18) (I 16 2) (I 17) (I 12) (I 7 9) (I 9) (I 10) (I 7 0) = some (r, o0, o1, o2, o3, o4, o5, o6, o7, o8, o9, o10) := by rw [eNf, eHr, ePn, eWl, eDb, eFg, eGc, eGn, eH, eHc, eHn, eLt, eNl, eSt, eWy, eW]; exact hr1
    have hs2 : f_X12_round (I 80) (I 75 6) (I 75 53) (I 75 3) (I 75 7) (I 75 8) (I 79) (I 75 5) (I 94) (I 91) (I 75 2) (I 75 0) (I 93) (I 76) (I 77) (I 75 1) = some (b, s0, s1, s2, s3) := by rw [mDb, eDa, mF, mNl, mH, mW]; exact hs
    refine ok_X11_round_0_p (by decide) (zwp_of hfr ?_)
    refine ⟨_, _, _, rfl, rfl, ?_⟩
    refine ok_X12_round_75 (by decide) (zwp_of hs2 ?_)
    refine ⟨_, _, congrArg (fun x => Sum.inl (some (Value.int x))) (ha), rfl, ?_⟩
    exact ⟨Or.inl ⟨rfl, rfl⟩, P, hr, pn, wl, nx, na, nn, ns, sz, hP, hm, hN.fr hP hrw, hD, hRf, hNo, hS, hIm, hT, eT1, eT2, eF, eDa, eW, eH, eFg, eSt, eWy, eNs, eNl, eLt, eDb, eGc, eGn, eHc, eHn, eHr, ePn, eWl, eNf, eNx, eNa, eNn, mW, mH, mF, mNs, mNl, mDb, mNa, mNn⟩
  · replace hS : SeatR P ns (I 23) (I 78) := hS
    replace eW : I 19 0 = nI (qW P) := eW
    replace eH : I 19 1 = nI (qH P) := eH
    replace eFg : I 19 3 = nI (qF P) := eFg
    replace eSt : I 21 = qSt P := eSt
    replace eWy : I 22 = qWy P := eWy
    replace eNs : I 19 7 = nI ns := eNs
    replace eNl : I 19 9 = nI (qNl P) := eNl
    replace eLt : I 24 = qLt P := eLt
    replace eDb : I 19 12 = qDb P := eDb
    replace eGc : I 27 = qGc P := eGc
    replace eGn : I 25 2 = nI (qGn P) := eGn
    replace eHc : I 30 = qHc P := eHc
    replace eHn : I 28 2 = nI (qHn P) := eHn
    obtain ⟨⟨r, o0, o1, o2, o3, o4, o5, o6, o7, o8, o9, o10⟩, hr1, h1⟩ := zwp_get (show zwp (f_X11_round (I 54) (I 53 3) (I 56) (I 53 0) (I 57) (I 53 1) (I 55) (J 53 2) (I 52) (I 32) (nI (qF P)) (I 34) (nI hr) (I 35) (nI pn) (I 33) (lN wl) (qDb P) (nI (qF P)) (qGc P) (nI (qGn P)) (I 26) (nI (qH P)) (qHc P) (nI (qHn P)) (I 29) (qLt P) (nI (qNl P)) (qSt P) (qWy P) (nI (qW P))) _ from c_round hP hN)
    obtain ⟨⟨b, s0, s1, s2, s3⟩, hs, h3, -, hrw⟩ := zwp_get (show zwp (f_X12_round (I 80) (qDb P) (-1) (nI (qF P)) (I 75 7) (I 75 8) (I 79) (nI (qNl P)) (I 94) (I 91) (nI (qH P)) (I 75 0) (I 93) (I 76) (I 77) (nI (qW P))) _ from m_round (fcell := I 54) (fsore := I 55) (fheld := I 56) hP hm hN)
    have ha : b = r := h3.trans h1.symm
    have hfr : f_X11_round (I 54) (I 53 3) (I 56) (I 53 0) (I 57) (I 53 1) (I 55) (J 53 2) (I 52) (I 32) (I 31 3) (I 34) (I 31 0) (I 35) (I 31 1) (I 33) (J 31 2) (I 19 12) (I 19 3) (I 27) (I 25 2) (I 26) (I 19 1) (I 30) (I 28 2) (I 29) (I 24) (I 19 9) (I 21) (I 22) (I 19 0) = some (r, o0, o1, o2, o3, o4, o5, o6, o7, o8, o9, o10) := by rw [eNf, eHr, ePn, eWl, eDb, eFg, eGc, eGn, eH, eHc, eHn, eLt, eNl, eSt, eWy, eW]; exact hr1
    have hs2 : f_X12_round (I 80) (I 75 6) (I 75 53) (I 75 3) (I 75 7) (I 75 8) (I 79) (I 75 5) (I 94) (I 91) (I 75 2) (I 75 0) (I 93) (I 76) (I 77) (I 75 1) = some (b, s0, s1, s2, s3) := by rw [mDb, eDa, mF, mNl, mH, mW]; exact hs
    refine ok_X11_round_0_q (by decide) (zwp_of hfr ?_)
    refine ⟨_, _, _, rfl, rfl, ?_⟩
    refine ok_X12_round_75 (by decide) (zwp_of hs2 ?_)
    refine ⟨_, _, congrArg (fun x => Sum.inl (some (Value.int x))) (ha), rfl, ?_⟩
    exact ⟨Or.inr ⟨rfl, rfl⟩, P, hr, pn, wl, nx, na, nn, ns, sz, hP, hm, hN.fr hP hrw, hD, hRf, hNo, hS, hIm, hT, eT1, eT2, eF, eDa, eW, eH, eFg, eSt, eWy, eNs, eNl, eLt, eDb, eGc, eGn, eHc, eHn, eHr, ePn, eWl, eNf, eNx, eNa, eNn, mW, mH, mF, mNs, mNl, mDb, mNa, mNn⟩
theorem op_forget {p q : Nat} {I : pI} {J : pJ} (H : Inv p q I J)  : OpV 121 252 [] p q I J := by
  obtain ⟨hpq, P, hr, pn, wl, nx, na, nn, ns, sz, hP, hm, hN, hD, hRf, hNo, hS, hIm, hT, eT1, eT2, eF, eDa, eW, eH, eFg, eSt, eWy, eNs, eNl, eLt, eDb, eGc, eGn, eHc, eHn, eHr, ePn, eWl, eNf, eNx, eNa, eNn, mW, mH, mF, mNs, mNl, mDb, mNa, mNn⟩ := H
  rcases hpq with ⟨rfl, rfl⟩ | ⟨rfl, rfl⟩
  · replace hS : SeatR P ns (I 11) (I 78) := hS
    replace eW : I 7 0 = nI (qW P) := eW
    replace eH : I 7 1 = nI (qH P) := eH
    replace eFg : I 7 3 = nI (qF P) := eFg
    replace eSt : I 9 = qSt P := eSt
    replace eWy : I 10 = qWy P := eWy
    replace eNs : I 7 7 = nI ns := eNs
    replace eNl : I 7 9 = nI (qNl P) := eNl
    replace eLt : I 12 = qLt P := eLt
    replace eDb : I 7 12 = qDb P := eDb
    replace eGc : I 15 = qGc P := eGc
    replace eGn : I 13 2 = nI (qGn P) := eGn
    replace eHc : I 18 = qHc P := eHc
    replace eHn : I 16 2 = nI (qHn P) := eHn
    have hfr : f_X11_forget (I 36 3) = some 0 := rfl
    have hs2 : f_X12_forget (I 75 60) (I 75 0) = some (0, 0) := rfl
    refine ok_X11_forget_0 (by decide) (zwp_of hfr ?_)
    refine ⟨_, _, rfl, rfl, ?_⟩
    refine ok_X12_forget_75 (by decide) (zwp_of hs2 ?_)
    refine ⟨_, _, rfl, rfl, ?_⟩
    exact ⟨Or.inl ⟨rfl, rfl⟩, P, hr, pn, wl, nx, na, 0, ns, sz, hP, hm, hN, hD, hRf, ⟨Nat.zero_le _, fun i h => absurd h (Nat.not_lt_zero i)⟩, hS, hIm, hT, eT1, eT2, eF, eDa, eW, eH, eFg, eSt, eWy, eNs, eNl, eLt, eDb, eGc, eGn, eHc, eHn, eHr, ePn, eWl, eNf, eNx, eNa, rfl, mW, mH, mF, mNs, mNl, mDb, mNa, rfl⟩
  · replace hS : SeatR P ns (I 23) (I 78) := hS
    replace eW : I 19 0 = nI (qW P) := eW
    replace eH : I 19 1 = nI (qH P) := eH
    replace eFg : I 19 3 = nI (qF P) := eFg
    replace eSt : I 21 = qSt P := eSt
    replace eWy : I 22 = qWy P := eWy
    replace eNs : I 19 7 = nI ns := eNs
    replace eNl : I 19 9 = nI (qNl P) := eNl
    replace eLt : I 24 = qLt P := eLt
    replace eDb : I 19 12 = qDb P := eDb
    replace eGc : I 27 = qGc P := eGc
    replace eGn : I 25 2 = nI (qGn P) := eGn
    replace eHc : I 30 = qHc P := eHc
    replace eHn : I 28 2 = nI (qHn P) := eHn
    have hfr : f_X11_forget (I 36 3) = some 0 := rfl
    have hs2 : f_X12_forget (I 75 60) (I 75 0) = some (0, 0) := rfl
    refine ok_X11_forget_0 (by decide) (zwp_of hfr ?_)
    refine ⟨_, _, rfl, rfl, ?_⟩
    refine ok_X12_forget_75 (by decide) (zwp_of hs2 ?_)
    refine ⟨_, _, rfl, rfl, ?_⟩
    exact ⟨Or.inr ⟨rfl, rfl⟩, P, hr, pn, wl, nx, na, 0, ns, sz, hP, hm, hN, hD, hRf, ⟨Nat.zero_le _, fun i h => absurd h (Nat.not_lt_zero i)⟩, hS, hIm, hT, eT1, eT2, eF, eDa, eW, eH, eFg, eSt, eWy, eNs, eNl, eLt, eDb, eGc, eGn, eHc, eHn, eHr, ePn, eWl, eNf, eNx, eNa, rfl, mW, mH, mF, mNs, mNl, mDb, mNa, rfl⟩
theorem op_image {p q : Nat} {I : pI} {J : pJ} (H : Inv p q I J)  : OpV 131 263 [] p q I J := by
  obtain ⟨hpq, P, hr, pn, wl, nx, na, nn, ns, sz, hP, hm, hN, hD, hRf, hNo, hS, hIm, hT, eT1, eT2, eF, eDa, eW, eH, eFg, eSt, eWy, eNs, eNl, eLt, eDb, eGc, eGn, eHc, eHn, eHr, ePn, eWl, eNf, eNx, eNa, eNn, mW, mH, mF, mNs, mNl, mDb, mNa, mNn⟩ := H
  rcases hpq with ⟨rfl, rfl⟩ | ⟨rfl, rfl⟩
  · replace hS : SeatR P ns (I 11) (I 78) := hS
    replace eW : I 7 0 = nI (qW P) := eW
    replace eH : I 7 1 = nI (qH P) := eH
    replace eFg : I 7 3 = nI (qF P) := eFg
    replace eSt : I 9 = qSt P := eSt
    replace eWy : I 10 = qWy P := eWy
    replace eNs : I 7 7 = nI ns := eNs
    replace eNl : I 7 9 = nI (qNl P) := eNl
    replace eLt : I 12 = qLt P := eLt
    replace eDb : I 7 12 = qDb P := eDb
    replace eGc : I 15 = qGc P := eGc
    replace eGn : I 13 2 = nI (qGn P) := eGn
    replace eHc : I 18 = qHc P := eHc
    replace eHn : I 16 2 = nI (qHn P) := eHn
    obtain ⟨⟨o0, o1, o2, o3, o4, o5, o6, o7, o8, o9, o10, o11, o12, o13, o14, o15⟩, hr1, h2⟩ := zwp_get (show zwp (f_X11_image (nI na) (I 39) (I 38) (I 40) (nI nx) (nI nn) (I 37) (I 46 2) (I 49) (I 48) (I 50) (I 46 1) (I 46 3) (I 47) (I 42) (I 41 3) (I 44) (I 41 0) (I 45) (I 41 1) (I 43) (J 41 2) (I 0 8) (I 32) (nI (qF P)) (I 34) (nI hr) (I 35) (nI pn) (I 33) (lN wl)) _ from cm_image (mthr := I 75 0) (mfl := I 75 65) (miacts := I 75 66) (minotes := I 75 67) (imkept := I 105) (imnoted := I 106) (irow := I 104) hP ⟨hN, hD, hNo⟩)
    obtain ⟨⟨s0, s1, s2, s3, s4, s5, s6⟩, hs, -, hIm2⟩ := zwp_get h2
    have hfr : f_X11_image (I 36 2) (I 39) (I 38) (I 40) (I 36 1) (I 36 3) (I 37) (I 46 2) (I 49) (I 48) (I 50) (I 46 1) (I 46 3) (I 47) (I 42) (I 41 3) (I 44) (I 41 0) (I 45) (I 41 1) (I 43) (J 41 2) (I 0 8) (I 32) (I 31 3) (I 34) (I 31 0) (I 35) (I 31 1) (I 33) (J 31 2) = some (o0, o1, o2, o3, o4, o5, o6, o7, o8, o9, o10, o11, o12, o13, o14, o15) := by rw [eNa, eNx, eNn, eNf, eHr, ePn, eWl]; exact hr1
    have hs2 : f_X12_image (I 75 50) (I 75 65) (I 75 66) (I 105) (I 75 67) (I 106) (I 104) (I 92) (I 101) (I 75 60) (I 91) (I 75 0) = some (s0, s1, s2, s3, s4, s5, s6) := by rw [mNa, mNn]; exact hs
    refine ok_X11_image_0 (by decide) (zwp_of hfr ?_)
    refine ⟨_, _, rfl, rfl, ?_⟩
    refine ok_X12_image_75 (by decide) (zwp_of hs2 ?_)
    refine ⟨_, _, rfl, rfl, ?_⟩
    exact ⟨Or.inl ⟨rfl, rfl⟩, P, hr, pn, wl, nx, na, nn, ns, sz, hP, hm, hN, hD, hRf, hNo, hS, hIm2, hT, eT1, eT2, eF, eDa, eW, eH, eFg, eSt, eWy, eNs, eNl, eLt, eDb, eGc, eGn, eHc, eHn, eHr, ePn, eWl, eNf, eNx, eNa, eNn, mW, mH, mF, mNs, mNl, mDb, mNa, mNn⟩
  · replace hS : SeatR P ns (I 23) (I 78) := hS
    replace eW : I 19 0 = nI (qW P) := eW
    replace eH : I 19 1 = nI (qH P) := eH
    replace eFg : I 19 3 = nI (qF P) := eFg
    replace eSt : I 21 = qSt P := eSt
    replace eWy : I 22 = qWy P := eWy
    replace eNs : I 19 7 = nI ns := eNs
    replace eNl : I 19 9 = nI (qNl P) := eNl
    replace eLt : I 24 = qLt P := eLt
    replace eDb : I 19 12 = qDb P := eDb
    replace eGc : I 27 = qGc P := eGc
    replace eGn : I 25 2 = nI (qGn P) := eGn
    replace eHc : I 30 = qHc P := eHc
    replace eHn : I 28 2 = nI (qHn P) := eHn
    obtain ⟨⟨o0, o1, o2, o3, o4, o5, o6, o7, o8, o9, o10, o11, o12, o13, o14, o15⟩, hr1, h2⟩ := zwp_get (show zwp (f_X11_image (nI na) (I 39) (I 38) (I 40) (nI nx) (nI nn) (I 37) (I 46 2) (I 49) (I 48) (I 50) (I 46 1) (I 46 3) (I 47) (I 42) (I 41 3) (I 44) (I 41 0) (I 45) (I 41 1) (I 43) (J 41 2) (I 0 8) (I 32) (nI (qF P)) (I 34) (nI hr) (I 35) (nI pn) (I 33) (lN wl)) _ from cm_image (mthr := I 75 0) (mfl := I 75 65) (miacts := I 75 66) (minotes := I 75 67) (imkept := I 105) (imnoted := I 106) (irow := I 104) hP ⟨hN, hD, hNo⟩)
    obtain ⟨⟨s0, s1, s2, s3, s4, s5, s6⟩, hs, -, hIm2⟩ := zwp_get h2
    have hfr : f_X11_image (I 36 2) (I 39) (I 38) (I 40) (I 36 1) (I 36 3) (I 37) (I 46 2) (I 49) (I 48) (I 50) (I 46 1) (I 46 3) (I 47) (I 42) (I 41 3) (I 44) (I 41 0) (I 45) (I 41 1) (I 43) (J 41 2) (I 0 8) (I 32) (I 31 3) (I 34) (I 31 0) (I 35) (I 31 1) (I 33) (J 31 2) = some (o0, o1, o2, o3, o4, o5, o6, o7, o8, o9, o10, o11, o12, o13, o14, o15) := by rw [eNa, eNx, eNn, eNf, eHr, ePn, eWl]; exact hr1
    have hs2 : f_X12_image (I 75 50) (I 75 65) (I 75 66) (I 105) (I 75 67) (I 106) (I 104) (I 92) (I 101) (I 75 60) (I 91) (I 75 0) = some (s0, s1, s2, s3, s4, s5, s6) := by rw [mNa, mNn]; exact hs
    refine ok_X11_image_0 (by decide) (zwp_of hfr ?_)
    refine ⟨_, _, rfl, rfl, ?_⟩
    refine ok_X12_image_75 (by decide) (zwp_of hs2 ?_)
    refine ⟨_, _, rfl, rfl, ?_⟩
    exact ⟨Or.inr ⟨rfl, rfl⟩, P, hr, pn, wl, nx, na, nn, ns, sz, hP, hm, hN, hD, hRf, hNo, hS, hIm2, hT, eT1, eT2, eF, eDa, eW, eH, eFg, eSt, eWy, eNs, eNl, eLt, eDb, eGc, eGn, eHc, eHn, eHr, ePn, eWl, eNf, eNx, eNa, eNn, mW, mH, mF, mNs, mNl, mDb, mNa, mNn⟩
theorem op_restore {p q : Nat} {I : pI} {J : pJ} (H : Inv p q I J)  : OpD 132 264 [] p q I J := by
  obtain ⟨hpq, P, hr, pn, wl, nx, na, nn, ns, sz, hP, hm, hN, hD, hRf, hNo, hS, hIm, hT, eT1, eT2, eF, eDa, eW, eH, eFg, eSt, eWy, eNs, eNl, eLt, eDb, eGc, eGn, eHc, eHn, eHr, ePn, eWl, eNf, eNx, eNa, eNn, mW, mH, mF, mNs, mNl, mDb, mNa, mNn⟩ := H
  rcases hpq with ⟨rfl, rfl⟩ | ⟨rfl, rfl⟩
  · replace hS : SeatR P ns (I 11) (I 78) := hS
    replace eW : I 7 0 = nI (qW P) := eW
    replace eH : I 7 1 = nI (qH P) := eH
    replace eFg : I 7 3 = nI (qF P) := eFg
    replace eSt : I 9 = qSt P := eSt
    replace eWy : I 10 = qWy P := eWy
    replace eNs : I 7 7 = nI ns := eNs
    replace eNl : I 7 9 = nI (qNl P) := eNl
    replace eLt : I 12 = qLt P := eLt
    replace eDb : I 7 12 = qDb P := eDb
    replace eGc : I 15 = qGc P := eGc
    replace eGn : I 13 2 = nI (qGn P) := eGn
    replace eHc : I 18 = qHc P := eHc
    replace eHn : I 16 2 = nI (qHn P) := eHn
    obtain ⟨⟨r, o0, o1, o2, o3, o4, o5, o6, o7, o8, o9, o10, o11, o12, o13, o14⟩, hr1, h2⟩ := zwp_get (show zwp (f_X11_restore (nI na) (I 39) (I 38) (I 40) (nI nx) (nI nn) (I 37) (I 46 2) (I 49) (I 48) (I 50) (I 46 1) (I 46 3) (I 47) (I 42) (I 41 3) (I 44) (I 41 0) (I 45) (I 41 1) (I 43) (J 41 2) (I 0 8) (I 32) (nI (qF P)) (I 34) (nI hr) (I 35) (nI pn) (I 33) (lN wl)) _ from cm_restore (mthr := I 75 0) hP ⟨hN, hD, hNo⟩ hIm)
    obtain ⟨⟨b, s0, s1, s2, s3, s4, s5⟩, hs, ha, -, q0, hr2, pn2, wl2, nx2, na2, nn2, q1, q2, q3, q4, q5, q6, q7, q8, hN2, hD2, hNo2⟩ := zwp_get h2
    have hfr : f_X11_restore (I 36 2) (I 39) (I 38) (I 40) (I 36 1) (I 36 3) (I 37) (I 46 2) (I 49) (I 48) (I 50) (I 46 1) (I 46 3) (I 47) (I 42) (I 41 3) (I 44) (I 41 0) (I 45) (I 41 1) (I 43) (J 41 2) (I 0 8) (I 32) (I 31 3) (I 34) (I 31 0) (I 35) (I 31 1) (I 33) (J 31 2) = some (r, o0, o1, o2, o3, o4, o5, o6, o7, o8, o9, o10, o11, o12, o13, o14) := by rw [eNa, eNx, eNn, eNf, eHr, ePn, eWl]; exact hr1
    have hs2 : f_X12_restore (I 75 50) (I 75 65) (I 75 66) (I 105) (I 75 67) (I 106) (I 104) (I 92) (I 101) (I 75 60) (I 91) (I 75 0) = some (b, s0, s1, s2, s3, s4, s5) := by rw [mNa, mNn]; exact hs
    refine ok_X11_restore_0 (by decide) (zwp_of hfr ?_)
    refine ⟨_, _, _, rfl, rfl, ?_⟩
    refine ok_X12_restore_75 (by decide) (zwp_of hs2 ?_)
    refine ⟨_, _, congrArg (fun x => Sum.inl (some (Value.int x))) (ha), rfl, ?_⟩
    exact ⟨Or.inl ⟨rfl, rfl⟩, P, hr2, pn2, wl2, nx2, na2, nn2, ns, sz, hP, hm, hN2, hD2, hRf, hNo2, hS, hIm, hT, eT1, eT2, eF, eDa, eW, eH, eFg, eSt, eWy, eNs, eNl, eLt, eDb, eGc, eGn, eHc, eHn, q4, q5, q6, q0, q2, q1, q3, mW, mH, mF, mNs, mNl, mDb, q7, q8⟩
  · replace hS : SeatR P ns (I 23) (I 78) := hS
    replace eW : I 19 0 = nI (qW P) := eW
    replace eH : I 19 1 = nI (qH P) := eH
    replace eFg : I 19 3 = nI (qF P) := eFg
    replace eSt : I 21 = qSt P := eSt
    replace eWy : I 22 = qWy P := eWy
    replace eNs : I 19 7 = nI ns := eNs
    replace eNl : I 19 9 = nI (qNl P) := eNl
    replace eLt : I 24 = qLt P := eLt
    replace eDb : I 19 12 = qDb P := eDb
    replace eGc : I 27 = qGc P := eGc
    replace eGn : I 25 2 = nI (qGn P) := eGn
    replace eHc : I 30 = qHc P := eHc
    replace eHn : I 28 2 = nI (qHn P) := eHn
    obtain ⟨⟨r, o0, o1, o2, o3, o4, o5, o6, o7, o8, o9, o10, o11, o12, o13, o14⟩, hr1, h2⟩ := zwp_get (show zwp (f_X11_restore (nI na) (I 39) (I 38) (I 40) (nI nx) (nI nn) (I 37) (I 46 2) (I 49) (I 48) (I 50) (I 46 1) (I 46 3) (I 47) (I 42) (I 41 3) (I 44) (I 41 0) (I 45) (I 41 1) (I 43) (J 41 2) (I 0 8) (I 32) (nI (qF P)) (I 34) (nI hr) (I 35) (nI pn) (I 33) (lN wl)) _ from cm_restore (mthr := I 75 0) hP ⟨hN, hD, hNo⟩ hIm)
    obtain ⟨⟨b, s0, s1, s2, s3, s4, s5⟩, hs, ha, -, q0, hr2, pn2, wl2, nx2, na2, nn2, q1, q2, q3, q4, q5, q6, q7, q8, hN2, hD2, hNo2⟩ := zwp_get h2
    have hfr : f_X11_restore (I 36 2) (I 39) (I 38) (I 40) (I 36 1) (I 36 3) (I 37) (I 46 2) (I 49) (I 48) (I 50) (I 46 1) (I 46 3) (I 47) (I 42) (I 41 3) (I 44) (I 41 0) (I 45) (I 41 1) (I 43) (J 41 2) (I 0 8) (I 32) (I 31 3) (I 34) (I 31 0) (I 35) (I 31 1) (I 33) (J 31 2) = some (r, o0, o1, o2, o3, o4, o5, o6, o7, o8, o9, o10, o11, o12, o13, o14) := by rw [eNa, eNx, eNn, eNf, eHr, ePn, eWl]; exact hr1
    have hs2 : f_X12_restore (I 75 50) (I 75 65) (I 75 66) (I 105) (I 75 67) (I 106) (I 104) (I 92) (I 101) (I 75 60) (I 91) (I 75 0) = some (b, s0, s1, s2, s3, s4, s5) := by rw [mNa, mNn]; exact hs
    refine ok_X11_restore_0 (by decide) (zwp_of hfr ?_)
    refine ⟨_, _, _, rfl, rfl, ?_⟩
    refine ok_X12_restore_75 (by decide) (zwp_of hs2 ?_)
    refine ⟨_, _, congrArg (fun x => Sum.inl (some (Value.int x))) (ha), rfl, ?_⟩
    exact ⟨Or.inr ⟨rfl, rfl⟩, P, hr2, pn2, wl2, nx2, na2, nn2, ns, sz, hP, hm, hN2, hD2, hRf, hNo2, hS, hIm, hT, eT1, eT2, eF, eDa, eW, eH, eFg, eSt, eWy, eNs, eNl, eLt, eDb, eGc, eGn, eHc, eHn, q4, q5, q6, q0, q2, q1, q3, mW, mH, mF, mNs, mNl, mDb, q7, q8⟩
