/-! TOWN -/
theorem rDep_stL {cd : Nat → Int32} : ∀ n, rDep cd n = dep (stL cd n)
  | 0 => rfl
  | n + 1 => by
    show (if cd n < -6 then (if cd n = -13 then rDep cd n else rDep cd n - 1) else rDep cd n + 1) = (if cd n < -6 then (if cd n = -13 then dep (stL cd n) else dep (stL cd n) - 1) else dep (stL cd n) + 1)
    rw [rDep_stL n]
theorem okL_at {cd : Nat → Int32} : ∀ n, okL (stL cd n) → ∀ k, k < n → (cd k < -6 → (cd k = -13 → 1 ≤ rDep cd k) ∧ (¬ cd k = -13 → 2 ≤ rDep cd k)) ∧ (¬ cd k < -6 → rDep cd k < 48)
  | 0, _, k, hk => by omega
  | n + 1, h, k, hk => by
    obtain ⟨h1, h2, h3⟩ := h
    by_cases q : k = n
    · subst q
      rw [rDep_stL]
      exact ⟨h2, h3⟩
    · exact okL_at n h1 k (by omega)
/-- a rule that was read -/
theorem RuR_fin {rc cd code : Nat → Int32} {tp : Nat} {sz at_ : Int32} (h : RuR rc tp cd sz at_) (e : ∀ k, k < 1400 → code k = rc k) : ∃ g, sz = nI g ∧ rOk cd g ∧ rCode cd g code at_ := by
  rcases h with ⟨h1, h2⟩ | ⟨out, a, t, h1, h2, h3, h4, h5, h6, h7, h8, h9, h10, h11, h12⟩
  · exact ⟨0, h1, ⟨by omega, fun q => by omega, fun k hk => by omega⟩, .inl ⟨rfl, h2⟩⟩
  · refine ⟨out.length, h2, ⟨h12, fun _ => ?_, ?_⟩, .inr ⟨h1, a, h4, ?_⟩⟩
    · rw [rDep_stL, h3]; exact h11
    · intro k hk
      exact okL_at out.length (by rw [h3]; exact h10) k hk
    · obtain ⟨pos, p1, p2, p3⟩ := CRL_crel (rc := code) (cd := cd) (a := a) out.length out t h3 (CRL_fr h6 (fun j hj => e j (by omega)))
      exact ⟨pos, p1, by omega, by rw [p2, e t h9]; exact h7, p3⟩
theorem isG0 {k : Nat} (h1 : 1 ≤ k) (h2 : k ≤ 5) : f_X12_isGood (nI k) = some 0 := by
  unfold f_X12_isGood
  rw [if_neg (fun e => by have := (nI_z0 (n := k) (by omega)).mp e; omega)]
theorem cm_town {a1 acts notes fpl imgd nfig nhr npn rs bn dp nots due w sdb sdt sfg sgs shh shs slts sss sww e k lg nm pl : Int32} {ncell nheld nlead nsore wt refd sgc shc slt ssc sst ssp swy b : Nat → Int32} {nwls swl : Int64} {macts mdp mdull mfk mfp mfig fv mga mimg mha lv mll l0 ml1 nd nf nga nha nll nss ntall nwide nx mnoted mpl mseats sg so mtall mthr tp va wn mwide : Int32} {mcode mlight nl nr nsa nwl nw rc mrefd rows msa tape ts ws mwl mways : Nat → Int32} {wd : Int64} {sz : Nat} (hTp : TapeR sz b tape) : zwp (f_X11_town a1 acts notes fpl imgd ncell nfig nheld nhr nlead npn nsore nwls rs bn dp nots due wt w refd sdb sdt sfg sgc sgs shh shc shs slt slts ssc sss sst ssp swl swy sww b e k lg nm pl (nI sz)) (fun r => zwp (f_X12_town a1 macts mcode mdp mdull mfk mfp mfig fv mga mimg mha lv mlight mll l0 ml1 nd nf nga nha nl nll nr nsa nss ntall nwl nw nwide nx mnoted mpl rc mrefd rows msa mseats sg so mtall tape (nI sz) ts mthr tp va wn ws mwl mways mwide wd) (fun s => (r.1 = .inr x_I ∧ r.2.1 = false ∧ s.1 = 0 ∧ s.2.2.2.2.2.2.2.2.2.2.2.2.2.2.2.2.2.2.2.2.2.2.2.2.2.2.2.2.2.2.2.2.2.2.2.2.2.2.2.2.2.2.2.1 = 1 ∧ r.2.2.2.2.1 = fpl ∧ s.2.2.2.2.2.2.1 = mfp ∧ r.2.2.2.2.2.2.2.2.2.2.2.2.2.2.2.2.2.2.2.2.2.1 = refd ∧ s.2.2.2.2.2.2.2.2.2.2.2.2.2.2.2.2.2.2.2.2.2.2.2.2.2.2.2.2.2.2.2.2.2.2.1 = mrefd ∧ r.2.2.2.2.2.2.2.2.2.2.2.2.2.2.2.2.2.2.2.2.2.2.2.2.2.2.2.2.2.2.2.2.2.2.2.2.2.2.2.2.2.2.2.2 = nI sz ∧ s.2.2.2.2.2.2.2.2.2.2.2.2.2.2.2.2.2.2.2.2.2.2.2.2.2.2.2.2.2.2.2.2.2.2.2.2.2.2.2.2.2.1 = nI sz ∧ r.2.2.1 = acts ∧ r.2.2.2.1 = notes ∧ r.2.2.2.2.2.1 = imgd ∧ r.2.2.2.2.2.2.1 = ncell ∧ r.2.2.2.2.2.2.2.1 = nfig ∧ r.2.2.2.2.2.2.2.2.1 = nheld ∧ r.2.2.2.2.2.2.2.2.2.1 = nhr ∧ r.2.2.2.2.2.2.2.2.2.2.1 = nlead ∧ r.2.2.2.2.2.2.2.2.2.2.2.1 = npn ∧ r.2.2.2.2.2.2.2.2.2.2.2.2.1 = nsore ∧ r.2.2.2.2.2.2.2.2.2.2.2.2.2.1 = nwls ∧ s.2.1 = macts ∧ s.2.2.1 = mcode ∧ s.2.2.2.2.1 = mdull ∧ s.2.2.2.2.2.2.2.1 = mfig ∧ s.2.2.2.2.2.2.2.2.2.1 = mga ∧ s.2.2.2.2.2.2.2.2.2.2.1 = mimg ∧ s.2.2.2.2.2.2.2.2.2.2.2.1 = mha ∧ s.2.2.2.2.2.2.2.2.2.2.2.2.2.1 = mlight ∧ s.2.2.2.2.2.2.2.2.2.2.2.2.2.2.1 = mll ∧ s.2.2.2.2.2.2.2.2.2.2.2.2.2.2.2.2.2.2.2.2.2.2.2.2.2.2.2.2.2.2.2.1 = mnoted ∧ s.2.2.2.2.2.2.2.2.2.2.2.2.2.2.2.2.2.2.2.2.2.2.2.2.2.2.2.2.2.2.2.2.2.2.2.1 = rows ∧ s.2.2.2.2.2.2.2.2.2.2.2.2.2.2.2.2.2.2.2.2.2.2.2.2.2.2.2.2.2.2.2.2.2.2.2.2.1 = msa ∧ s.2.2.2.2.2.2.2.2.2.2.2.2.2.2.2.2.2.2.2.2.2.2.2.2.2.2.2.2.2.2.2.2.2.2.2.2.2.1 = mseats ∧ s.2.2.2.2.2.2.2.2.2.2.2.2.2.2.2.2.2.2.2.2.2.2.2.2.2.2.2.2.2.2.2.2.2.2.2.2.2.2.2.2.1 = mtall ∧ s.2.2.2.2.2.2.2.2.2.2.2.2.2.2.2.2.2.2.2.2.2.2.2.2.2.2.2.2.2.2.2.2.2.2.2.2.2.2.2.2.2.2.2.2.2.2.2.2.1 = mwl ∧ s.2.2.2.2.2.2.2.2.2.2.2.2.2.2.2.2.2.2.2.2.2.2.2.2.2.2.2.2.2.2.2.2.2.2.2.2.2.2.2.2.2.2.2.2.2.2.2.2.2.1 = mways ∧ s.2.2.2.2.2.2.2.2.2.2.2.2.2.2.2.2.2.2.2.2.2.2.2.2.2.2.2.2.2.2.2.2.2.2.2.2.2.2.2.2.2.2.2.2.2.2.2.2.2.2.1 = mwide) ∨ (∃ k q, r.1 = .inl (nI k) ∧ r.2.1 = false ∧ s.1 = nI k ∧ s.2.2.2.2.2.2.2.2.2.2.2.2.2.2.2.2.2.2.2.2.2.2.2.2.2.2.2.2.2.2.2.2.2.2.2.2.2.2.2.2.2.2.2.1 = 0 ∧ r.2.2.2.2.1 = nI q ∧ s.2.2.2.2.2.2.1 = nI q ∧ r.2.2.2.2.2.2.2.2.2.2.2.2.2.2.2.2.2.2.2.2.2.1 = upd refd 0 (refd 0 + 1) ∧ s.2.2.2.2.2.2.2.2.2.2.2.2.2.2.2.2.2.2.2.2.2.2.2.2.2.2.2.2.2.2.2.2.2.2.1 = upd mrefd 0 (mrefd 0 + 1) ∧ r.2.2.2.2.2.2.2.2.2.2.2.2.2.2.2.2.2.2.2.2.2.2.2.2.2.2.2.2.2.2.2.2.2.2.2.2.2.2.2.2.2.2.2.2 = 0 ∧ s.2.2.2.2.2.2.2.2.2.2.2.2.2.2.2.2.2.2.2.2.2.2.2.2.2.2.2.2.2.2.2.2.2.2.2.2.2.2.2.2.2.1 = 0 ∧ r.2.2.1 = acts ∧ r.2.2.2.1 = notes ∧ r.2.2.2.2.2.1 = imgd ∧ r.2.2.2.2.2.2.1 = ncell ∧ r.2.2.2.2.2.2.2.1 = nfig ∧ r.2.2.2.2.2.2.2.2.1 = nheld ∧ r.2.2.2.2.2.2.2.2.2.1 = nhr ∧ r.2.2.2.2.2.2.2.2.2.2.1 = nlead ∧ r.2.2.2.2.2.2.2.2.2.2.2.1 = npn ∧ r.2.2.2.2.2.2.2.2.2.2.2.2.1 = nsore ∧ r.2.2.2.2.2.2.2.2.2.2.2.2.2.1 = nwls ∧ s.2.1 = macts ∧ s.2.2.1 = mcode ∧ s.2.2.2.2.1 = mdull ∧ s.2.2.2.2.2.2.2.1 = mfig ∧ s.2.2.2.2.2.2.2.2.2.1 = mga ∧ s.2.2.2.2.2.2.2.2.2.2.1 = mimg ∧ s.2.2.2.2.2.2.2.2.2.2.2.1 = mha ∧ s.2.2.2.2.2.2.2.2.2.2.2.2.2.1 = mlight ∧ s.2.2.2.2.2.2.2.2.2.2.2.2.2.2.1 = mll ∧ s.2.2.2.2.2.2.2.2.2.2.2.2.2.2.2.2.2.2.2.2.2.2.2.2.2.2.2.2.2.2.2.1 = mnoted ∧ s.2.2.2.2.2.2.2.2.2.2.2.2.2.2.2.2.2.2.2.2.2.2.2.2.2.2.2.2.2.2.2.2.2.2.2.1 = rows ∧ s.2.2.2.2.2.2.2.2.2.2.2.2.2.2.2.2.2.2.2.2.2.2.2.2.2.2.2.2.2.2.2.2.2.2.2.2.1 = msa ∧ s.2.2.2.2.2.2.2.2.2.2.2.2.2.2.2.2.2.2.2.2.2.2.2.2.2.2.2.2.2.2.2.2.2.2.2.2.2.1 = mseats ∧ s.2.2.2.2.2.2.2.2.2.2.2.2.2.2.2.2.2.2.2.2.2.2.2.2.2.2.2.2.2.2.2.2.2.2.2.2.2.2.2.2.1 = mtall ∧ s.2.2.2.2.2.2.2.2.2.2.2.2.2.2.2.2.2.2.2.2.2.2.2.2.2.2.2.2.2.2.2.2.2.2.2.2.2.2.2.2.2.2.2.2.2.2.2.2.1 = mwl ∧ s.2.2.2.2.2.2.2.2.2.2.2.2.2.2.2.2.2.2.2.2.2.2.2.2.2.2.2.2.2.2.2.2.2.2.2.2.2.2.2.2.2.2.2.2.2.2.2.2.2.1 = mways ∧ s.2.2.2.2.2.2.2.2.2.2.2.2.2.2.2.2.2.2.2.2.2.2.2.2.2.2.2.2.2.2.2.2.2.2.2.2.2.2.2.2.2.2.2.2.2.2.2.2.2.2.1 = mwide) ∨ (r.1 = .inl 0 ∧ r.2.1 = true ∧ s.1 = 0 ∧ s.2.2.2.2.2.2.2.2.2.2.2.2.2.2.2.2.2.2.2.2.2.2.2.2.2.2.2.2.2.2.2.2.2.2.2.2.2.2.2.2.2.2.2.1 = 0 ∧ r.2.2.2.2.1 = -1 ∧ s.2.2.2.2.2.2.1 = -1 ∧ r.2.2.2.2.2.2.2.2.2.2.2.2.2.2.2.2.2.2.2.2.2.1 = refd ∧ s.2.2.2.2.2.2.2.2.2.2.2.2.2.2.2.2.2.2.2.2.2.2.2.2.2.2.2.2.2.2.2.2.2.2.1 = mrefd ∧ r.2.2.2.2.2.2.2.2.2.2.2.2.2.2.2.2.2.2.2.2.2.2.2.2.2.2.2.2.2.2.2.2.2.2.2.2.2.2.2.2.2.2.2.2 = 0 ∧ s.2.2.2.2.2.2.2.2.2.2.2.2.2.2.2.2.2.2.2.2.2.2.2.2.2.2.2.2.2.2.2.2.2.2.2.2.2.2.2.2.2.1 = 0 ∧ r.2.2.1 = 0 ∧ r.2.2.2.1 = 0 ∧ r.2.2.2.2.2.1 = 0 ∧ s.2.1 = 0 ∧ s.2.2.2.2.2.2.2.2.2.2.2.2.2.2.2.2.2.2.2.2.2.2.2.2.2.2.2.2.2.2.2.1 = 0 ∧ s.2.2.2.2.2.2.2.2.2.2.1 = 0 ∧ ∃ P wl ns, plOk P ∧ mPl P s.2.2.2.2.2.2.2.2.2.2.2.2.2.2.2.2.2.2.2.2.2.2.2.2.2.2.2.2.2.2.2.2.2.2.2.2.2.2.2.2.2.2.2.2.2.2.2.2.1 s.2.2.2.2.2.2.2.2.2.2.2.2.2.2.2.2.2.2.2.2.2.2.2.2.2.2.2.2.2.2.2.2.2.2.2.2.2.2.2.2.2.2.2.2.2.2.2.2.2.1 s.2.2.2.2.2.2.2.2.2.2.2.2.2.1 s.2.2.1 s.2.2.2.2.2.2.2.2.2.1 s.2.2.2.2.2.2.2.2.2.2.2.1 ∧ NowR P 0 0 wl r.2.2.2.2.2.2.1 r.2.2.2.2.2.2.2.2.2.2.2.2.1 r.2.2.2.2.2.2.2.2.1 r.2.2.2.2.2.2.2.2.2.2.1 s.2.2.2.2.2.2.2.2.2.2.2.2.2.2.2.2.2.2.2.2.2.2.2.2.2.2.2.2.2.2.2.2.2.2.2.1 ∧ SeatR P ns r.2.2.2.2.2.2.2.2.2.2.2.2.2.2.2.2.2.2.2.2.2.2.2.2.2.2.2.2.2.2.2.2.1 s.2.2.2.2.2.2.2.2.2.2.2.2.2.2.2.2.2.2.2.2.2.2.2.2.2.2.2.2.2.2.2.2.2.2.2.2.1 ∧ r.2.2.2.2.2.2.2.1 = nI (qF P) ∧ r.2.2.2.2.2.2.2.2.2.1 = 0 ∧ r.2.2.2.2.2.2.2.2.2.2.2.1 = 0 ∧ r.2.2.2.2.2.2.2.2.2.2.2.2.2.1 = lN wl ∧ r.2.2.2.2.2.2.2.2.2.2.2.2.2.2.2.2.2.2.2.2.2.2.1 = qDb P ∧ r.2.2.2.2.2.2.2.2.2.2.2.2.2.2.2.2.2.2.2.2.2.2.2.2.1 = nI (qF P) ∧ r.2.2.2.2.2.2.2.2.2.2.2.2.2.2.2.2.2.2.2.2.2.2.2.2.2.1 = qGc P ∧ r.2.2.2.2.2.2.2.2.2.2.2.2.2.2.2.2.2.2.2.2.2.2.2.2.2.2.1 = nI (qGn P) ∧ r.2.2.2.2.2.2.2.2.2.2.2.2.2.2.2.2.2.2.2.2.2.2.2.2.2.2.2.1 = nI (qH P) ∧ r.2.2.2.2.2.2.2.2.2.2.2.2.2.2.2.2.2.2.2.2.2.2.2.2.2.2.2.2.1 = qHc P ∧ r.2.2.2.2.2.2.2.2.2.2.2.2.2.2.2.2.2.2.2.2.2.2.2.2.2.2.2.2.2.1 = nI (qHn P) ∧ r.2.2.2.2.2.2.2.2.2.2.2.2.2.2.2.2.2.2.2.2.2.2.2.2.2.2.2.2.2.2.1 = qLt P ∧ r.2.2.2.2.2.2.2.2.2.2.2.2.2.2.2.2.2.2.2.2.2.2.2.2.2.2.2.2.2.2.2.1 = nI (qNl P) ∧ r.2.2.2.2.2.2.2.2.2.2.2.2.2.2.2.2.2.2.2.2.2.2.2.2.2.2.2.2.2.2.2.2.2.1 = nI ns ∧ r.2.2.2.2.2.2.2.2.2.2.2.2.2.2.2.2.2.2.2.2.2.2.2.2.2.2.2.2.2.2.2.2.2.2.2.1 = qSt P ∧ r.2.2.2.2.2.2.2.2.2.2.2.2.2.2.2.2.2.2.2.2.2.2.2.2.2.2.2.2.2.2.2.2.2.2.2.2.2.1 = qWy P ∧ r.2.2.2.2.2.2.2.2.2.2.2.2.2.2.2.2.2.2.2.2.2.2.2.2.2.2.2.2.2.2.2.2.2.2.2.2.2.2.1 = nI (qW P) ∧ s.2.2.2.2.2.2.2.1 = nI (qF P) ∧ s.2.2.2.2.2.2.2.2.2.2.2.2.2.2.1 = nI (qNl P) ∧ s.2.2.2.2.2.2.2.2.2.2.2.2.2.2.2.2.2.2.2.2.2.2.2.2.2.2.2.2.2.2.2.2.2.2.2.2.2.1 = nI ns ∧ s.2.2.2.2.2.2.2.2.2.2.2.2.2.2.2.2.2.2.2.2.2.2.2.2.2.2.2.2.2.2.2.2.2.2.2.2.2.2.2.2.1 = nI (qH P) ∧ s.2.2.2.2.2.2.2.2.2.2.2.2.2.2.2.2.2.2.2.2.2.2.2.2.2.2.2.2.2.2.2.2.2.2.2.2.2.2.2.2.2.2.2.2.2.2.2.2.2.2.1 = nI (qW P) ∧ s.2.2.2.2.1 = qDb P))) := by
  unfold f_X11_town
  by_cases h0 : a1 < 0
  · refine zi_t h0 (zwi ?_)
    unfold f_X12_town
    refine zi_bind (zi_t h0 (zwi ?_))
    refine zi_beq (a := (0, 1)) rfl (zi_t rfl (zwi (.inl ⟨rfl, rfl, rfl, rfl, rfl, rfl, rfl, rfl, rfl, rfl, rfl, rfl, rfl, rfl, rfl, rfl, rfl, rfl, rfl, rfl, rfl, rfl, rfl, rfl, rfl, rfl, rfl, rfl, rfl, rfl, rfl, rfl, rfl, rfl, rfl, rfl, rfl, rfl⟩)))
  refine zi_f h0 ?_
  by_cases h1 : a1 ≤ nI sz
  case neg =>
    refine zi_f h1 (zwi ?_)
    unfold f_X12_town
    refine zi_bind (zi_f h0 (zi_t (Int32.not_le.mp h1) (zwi ?_)))
    refine zi_beq (a := (0, 1)) rfl (zi_t rfl (zwi (.inl ⟨rfl, rfl, rfl, rfl, rfl, rfl, rfl, rfl, rfl, rfl, rfl, rfl, rfl, rfl, rfl, rfl, rfl, rfl, rfl, rfl, rfl, rfl, rfl, rfl, rfl, rfl, rfl, rfl, rfl, rfl, rfl, rfl, rfl, rfl, rfl, rfl, rfl, rfl⟩)))
  refine zi_t h1 ?_
  obtain ⟨hsz, htape⟩ := hTp
  obtain ⟨n, hn31, rfl⟩ := nI_of h0
  have hnsz : n ≤ sz := (nI_leI hn31 (by omega)).mp h1
  have hn : n ≤ 700 := by omega
  have htp : ∀ k, k < n → tape k = b k := fun k hk => (htape k (by omega)).1.symm
  obtain ⟨y7, ey7, hy7⟩ := zw_ex (m_zero70 (row := nr))
  have hmg : zwp (f_X12_goes l0 (nI n) (0 : Int32) mpl sg so tape va wd) (fun r => MTok b n (tP b n 0) r.1 r.2.1 r.2.2.1 r.2.2.2.1 r.2.2.2.2.1 r.2.2.2.2.2.1 r.2.2.2.2.2.2) := by
    refine zwp_mono (m_goes (e := 0) hn (Nat.zero_le _) htp) ?_
    rintro _ rfl
    exact ⟨rfl, rfl, rfl, rfl, rfl, rfl, rfl⟩
  obtain ⟨⟨g1, g2, g3, g4, g5, g6, g7⟩, eg, hT0⟩ := zw_ex hmg
  dsimp only at hT0
  have hp0 := (tP_le (b := b) (n := n) (e := 0) (Nat.zero_le _)).2
  obtain ⟨kw, ek, hkw⟩ := zw_ex (m_kw hn hp0 hT0.1 hT0.2.2.2.2.1 hT0.2.2.2.2.2.2)
  subst hkw
  refine zi_bind ?_
  unfold f_X4_read
  refine zi_beq (a := (3, 0, 0, 0, 4, 0, 0, 0, 0, 5)) rfl ?_
  unfold f_X9_begin
  refine zi_bind (zi_bind (zwp_mono (c_advance (e := 0) hn (Nat.zero_le _)) ?_))
  rintro ⟨o1, o2, o3, o4⟩ ho
  refine zwi ?_
  have hC0 : CTok b n (tP b n 0) o1 o2 o3 o4 := by
    injection ho with e1 e2
    injection e2 with e2 e3
    injection e3 with e3 e4
    refine ⟨e1, e2, e4, fun q => ?_⟩
    rw [e3, if_pos q]
  have hw2 : zwp (f_X9_isWord 2 b o1 o2 o4) (fun r => r = b2 (tw b n (tP b n 0) 6)) := by
    rw [hC0.1, hC0.2.1, hC0.2.2.1]; exact c_w2 hn hp0
  dsimp only
  refine zi_bind (zwp_mono hw2 ?_)
  rintro _ rfl
  obtain ⟨⟨t1, t2, t3, t4, t5, t6, t7, t8, t9, t10, t11⟩, eT, hTB⟩ := zw_ex (cm_table hn hp0 htp hC0 hT0)
  refine zi_bind (zwp_mono hTB ?_)
  rintro ⟨j17, j18, j19, j20, j21, j22, j23⟩ hTB'
  refine zi_bind (zwp_mono (zl_twoU (g := gTown (nI n) t4 t5 tape) (a' := (mdp, t1, t2, fv, lv, t3, -1, 0, -1, -1, nl, 0, y7, nsa, 0, nwl, nw, t6, t7, rc, t8, t9, ts, 0, t10, wn, ws, t11)) (fun i a a' => a.2.1 = nI i ∧ ((∃ W H p, 2 ≤ W ∧ W ≤ 6 ∧ 2 ≤ H ∧ H ≤ 6 ∧ j18 = nI H ∧ j19 = nI W ∧ t4 = nI H ∧ t5 = nI W ∧ a.1 = 0 ∧ a'.2.1 = 0 ∧ a'.2.2.1 = -1 ∧ i ≤ p ∧ p ≤ n ∧ CTok b n p a.2.2.2.2.2.2.2.2.2.2.2.2.2.2.2.2.2.2.2.2.2.2.2.2.1 a.2.2.2.2.2.2.2.2.2.2.2.2.2.2.2.2.2.2.2.2.2.2.2.2.2.1 a.2.2.2.2.2.2.2.2.2.2.2.2.2.2.2.2.2.2.2.2.2.2.2.2.2.2.1 a.2.2.2.2.2.2.2.2.2.2.2.2.2.2.2.2.2.2.2.2.2.2.2.2.2.2.2 ∧ MTok b n p a'.2.2.2.2.2.1 a'.2.2.2.2.2.2.2.2.2.2.2.2.2.2.2.2.2.1 a'.2.2.2.2.2.2.2.2.2.2.2.2.2.2.2.2.2.2.1 a'.2.2.2.2.2.2.2.2.2.2.2.2.2.2.2.2.2.2.2.2.1 a'.2.2.2.2.2.2.2.2.2.2.2.2.2.2.2.2.2.2.2.2.2.1 a'.2.2.2.2.2.2.2.2.2.2.2.2.2.2.2.2.2.2.2.2.2.2.2.2.1 a'.2.2.2.2.2.2.2.2.2.2.2.2.2.2.2.2.2.2.2.2.2.2.2.2.2.2.2 ∧ PR W H p a.2.2.1 a.2.2.2.1 a.2.2.2.2.1 a.2.2.2.2.2.1 a.2.2.2.2.2.2.1 a.2.2.2.2.2.2.2.1 a.2.2.2.2.2.2.2.2.1 a.2.2.2.2.2.2.2.2.2.1 a.2.2.2.2.2.2.2.2.2.2.1 a.2.2.2.2.2.2.2.2.2.2.2.1 a.2.2.2.2.2.2.2.2.2.2.2.2.1 a.2.2.2.2.2.2.2.2.2.2.2.2.2.1 a.2.2.2.2.2.2.2.2.2.2.2.2.2.2.1 a.2.2.2.2.2.2.2.2.2.2.2.2.2.2.2.1 a.2.2.2.2.2.2.2.2.2.2.2.2.2.2.2.2.1 a'.2.2.2.2.2.2.1 a'.2.2.2.2.2.2.2.1 a'.2.2.2.2.2.2.2.2.1 a'.2.2.2.2.2.2.2.2.2.1 a'.2.2.2.2.2.2.2.2.2.2.1 a'.2.2.2.2.2.2.2.2.2.2.2.1 a'.2.2.2.2.2.2.2.2.2.2.2.2.1 a'.2.2.2.2.2.2.2.2.2.2.2.2.2.1 a'.2.2.2.2.2.2.2.2.2.2.2.2.2.2.1 a'.2.2.2.2.2.2.2.2.2.2.2.2.2.2.2.1 a'.2.2.2.2.2.2.2.2.2.2.2.2.2.2.2.2.1 a'.2.2.2.2.2.2.2.2.2.2.2.2.2.2.2.2.2.2.2.1 a'.2.2.2.2.2.2.2.2.2.2.2.2.2.2.2.2.2.2.2.2.2.2.2.1) ∨ (∃ k q, 1 ≤ k ∧ k ≤ 5 ∧ a.1 = nI k ∧ a.2.2.2.2.2.2.2.2.2.2.2.2.2.2.2.2.2.2.2.2.2.2.2.2.2.2.2 = nI q ∧ a'.2.1 = nI k ∧ a'.2.2.1 = nI q))) (fun x y => (∃ W H p, 2 ≤ W ∧ W ≤ 6 ∧ 2 ≤ H ∧ H ≤ 6 ∧ j18 = nI H ∧ j19 = nI W ∧ t4 = nI H ∧ t5 = nI W ∧ x.1 = 0 ∧ y.2.1 = 0 ∧ y.2.2.1 = -1 ∧ p ≤ n ∧ PR W H p x.2.1 x.2.2.1 x.2.2.2.1 x.2.2.2.2.1 x.2.2.2.2.2.1 x.2.2.2.2.2.2.1 x.2.2.2.2.2.2.2.1 x.2.2.2.2.2.2.2.2.1 x.2.2.2.2.2.2.2.2.2.1 x.2.2.2.2.2.2.2.2.2.2.1 x.2.2.2.2.2.2.2.2.2.2.2.1 x.2.2.2.2.2.2.2.2.2.2.2.2.1 x.2.2.2.2.2.2.2.2.2.2.2.2.2.1 x.2.2.2.2.2.2.2.2.2.2.2.2.2.2.1 x.2.2.2.2.2.2.2.2.2.2.2.2.2.2.2.1 y.2.2.2.2.2.2.1 y.2.2.2.2.2.2.2.1 y.2.2.2.2.2.2.2.2.1 y.2.2.2.2.2.2.2.2.2.1 y.2.2.2.2.2.2.2.2.2.2.1 y.2.2.2.2.2.2.2.2.2.2.2.1 y.2.2.2.2.2.2.2.2.2.2.2.2.1 y.2.2.2.2.2.2.2.2.2.2.2.2.2.1 y.2.2.2.2.2.2.2.2.2.2.2.2.2.2.1 y.2.2.2.2.2.2.2.2.2.2.2.2.2.2.2.1 y.2.2.2.2.2.2.2.2.2.2.2.2.2.2.2.2.1 y.2.2.2.2.2.2.2.2.2.2.2.2.2.2.2.2.2.2.2.1 y.2.2.2.2.2.2.2.2.2.2.2.2.2.2.2.2.2.2.2.2.2.2.2.1) ∨ (∃ k q, 1 ≤ k ∧ k ≤ 5 ∧ x.1 = nI k ∧ x.2.2.2.2.2.2.2.2.2.2.2.2.2.2.2.2.2.2.2.2.2.2.2.2.2.2 = nI q ∧ y.2.1 = nI k ∧ y.2.2.1 = nI q)) 700 (by decide) ?_ ?_ ?_) ?_)
  · refine ⟨rfl, ?_⟩
    rcases hTB' with ⟨q1, q2, q3, W, H, p, q4, q5, q6, q7, q8, q9, q10, q11, q12, q13, q14⟩ | ⟨k, q, q1, q2, q3, q4, q5, q6⟩
    · exact .inl ⟨W, H, p, q4, q5, q6, q7, q9, q10, q11, q12, q1, q2, q3, Nat.zero_le _, q8, q13, q14, 0, 0, 0, 0, 0, rfl, rfl, by omega, rfl, rfl, by omega, rfl, rfl, by omega, rfl, Nat.two_pow_pos _, rfl, Nat.zero_le _, .inl ⟨rfl, rfl, rfl⟩, fun f hf => by omega, fun f hf => by omega, fun f hf => by omega, fun f hf => by omega, fun c hc => by show y7 (33 + c) = _; rw [hy7 _ (by omega), Nat.zero_testBit]; rfl, hy7 0 (by decide), hy7 69 (by decide), fun k h1 h2 => hy7 k (by omega), .inl ⟨rfl, rfl⟩, .inl ⟨rfl, rfl⟩⟩
    · exact .inr ⟨k, q, q1, q2, q3, q4, q5, q6⟩
  · rintro i hi ⟨x0, x1, x2, x3, x4, x5, x6, x7, x8, x9, x10, x11, x12, x13, x14, x15, x16, x17, x18, x19, x20, x21, x22, x23, x24, x25, x26, x27⟩ ⟨u0, u1, u2, u3, u4, u5, u6, u7, u8, u9, u10, u11, u12, u13, u14, u15, u16, u17, u18, u19, u20, u21, u22, u23, u24, u25, u26, u27⟩ ⟨ei, hP⟩
    dsimp only at ei hP
    subst ei
    refine zi_f (by rw [show (700 : Int32) = nI 700 from rfl]; exact nI_ge hi (by decide)) ?_
    rcases hP with ⟨W, H, p, q1, q2, q3, q4, q5, q6, q7, q8, q9, q10, q11, q12, q13, ht, hT, hPR⟩ | ⟨k, q, q1, q2, q3, q4, q5, q6⟩
    · subst q5 q6 q7 q8 q9 q10 q11
      refine zi_t rfl ?_
      have hWH : W * H ≤ 36 := Nat.mul_le_mul q2 q4
      have hk4 := tK_le (b := b) (n := n) (p := p)
      have hkd : x25 = nI (tK b n p) := ht.2.1
      have hso : u21 = nI (tK b n p) := hT.2.2.2.2.1
      by_cases hk0 : tK b n p = 0
      · refine zi_t (by rw [hkd, hk0]; rfl) (zwi ?_)
        unfold gTown
        refine zi_beq (a := 1) rfl (zi_f (by decide) (zi_t (by rw [hso, hk0]; rfl) (zwi ?_)))
        exact .inl ⟨W, H, p, q1, q2, q3, q4, rfl, rfl, rfl, rfl, rfl, rfl, rfl, q13, hPR⟩
      · have hpn := tK_pos hk0
        refine zi_f (fun e => hk0 (by rw [hkd] at e; exact (nI_z0 (by omega)).mp e)) ?_
        refine zi_bind (zwp_mono (cm_line (mdp := u0) (fv := u3) (lv := u4) (ts := u22) (wn := u25) (ws := u26) hn hpn htp hWH hPR ht hT) ?_)
        rintro ⟨r0, r1, r2, r3, r4, r5, r6, r7, r8, r9, r10, r11, r12, r13, r14, r15, r16, r17, r18, r19, r20, r21, r22, r23, r24, r25, r26⟩ hz0
        obtain ⟨⟨m0, m1, m2, m3, m4, m5, m6, m7, m8, m9, m10, m11, m12, m13, m14, m15, m16, m17, m18, m19, m20, m21, m22, m23, m24, m25, m26, m27⟩, em, hz1⟩ := zw_ex hz0
        clear hz0
        dsimp only at hz1 ⊢
        have hg : ∀ Q, Q (Sum.inl (m0, m1, m2, m3, m4, m5, m6, m7, m8, m9, m10, m11, m12, m13, m14, m15, m16, m17, m18, m19, m20, m21, m22, m23, m24, m25, m26, m27)) → zwp (gTown (nI n) (nI H) (nI W) tape (u0, 0, -1, u3, u4, u5, u6, u7, u8, u9, u10, u11, u12, u13, u14, u15, u16, u17, u18, u19, u20, u21, u22, u23, u24, u25, u26, u27)) Q := fun Q hQ => by
          unfold gTown
          refine zi_beq (a := 1) rfl (zi_f (by decide) (zi_f (fun e => hk0 (by rw [hso] at e; exact (nI_z0 (by omega)).mp e)) ?_))
          exact zi_beq em (zwi hQ)
        rcases hz1 with ⟨c1, p', c2, c3, ht2, hz2⟩ | ⟨k, q, c1, c2, c3, c4, c5, c6⟩
        · subst c1
          refine zi_t rfl ?_
          refine zi_bind (zwp_mono (c_readStop hn c3 ht2) ?_)
          rintro ⟨v0, v1, v2, v3, v4⟩ ⟨d1, d2⟩
          refine zwi (hg _ ?_)
          rcases hz2 with ⟨h59, e1, e2, hT2, hPR2⟩ | ⟨h59, e1, e2⟩
          · obtain ⟨d3, ht3⟩ := d1 h59
            have hnx := nx_le (b := b) c3
            refine ⟨by rw [nI_1], .inl ⟨W, H, nxP b n p', q1, q2, q3, q4, rfl, rfl, rfl, rfl, d3, e1, e2, by omega, hnx.2, ht3, hT2, ?_⟩⟩
            obtain ⟨F, S, L, wl, t, w1, w2, w3, w4, w5, w6, w7, w8, w9, w10, w11, w12, w13, w14⟩ := hPR2
            exact ⟨F, S, L, wl, t, w1, w2, w3, w4, w5, w6, w7, w8, w9, w10, w11, w12, by omega, w14⟩
          · obtain ⟨d3, d4⟩ := d2 h59
            exact ⟨by rw [nI_1], .inr ⟨1, p', by decide, by decide, d3, d4, e1, e2⟩⟩
        · refine zi_f (fun e => ?_) (zwi (hg _ ⟨by rw [nI_1], .inr ⟨k, q, c1, c2, c3, c4, c5, c6⟩⟩))
          rw [c3] at e
          have := (nI_z0 (n := k) (by omega)).mp e
          omega
    · refine zi_f (fun e => ?_) (zwi ?_)
      · rw [q3] at e
        have := (nI_z0 (n := k) (by omega)).mp e
        omega
      · unfold gTown
        refine zi_beq (by rw [q5]; exact isG0 q1 q2) (zi_t rfl (zwi ?_))
        exact .inr ⟨k, q, q1, q2, q3, q4, q5, q6⟩
  · rintro ⟨x0, x1, x2, x3, x4, x5, x6, x7, x8, x9, x10, x11, x12, x13, x14, x15, x16, x17, x18, x19, x20, x21, x22, x23, x24, x25, x26, x27⟩ ⟨u0, u1, u2, u3, u4, u5, u6, u7, u8, u9, u10, u11, u12, u13, u14, u15, u16, u17, u18, u19, u20, u21, u22, u23, u24, u25, u26, u27⟩ ⟨ei, hP⟩
    dsimp only at ei hP
    subst ei
    refine zi_t (show (700 : Int32) ≤ nI 700 by decide) (zwi ?_)
    rcases hP with ⟨W, H, p, q1, q2, q3, q4, q5, q6, q7, q8, q9, q10, q11, q12, q13, ht, hT, hPR⟩ | ⟨k, q, q1, q2, q3, q4, q5, q6⟩
    · subst q5 q6 q7 q8 q9 q10 q11
      have hk0 : tK b n p = 0 := Classical.byContradiction (fun h => by have := tK_pos h; omega)
      have hso : u21 = nI (tK b n p) := hT.2.2.2.2.1
      unfold gTown
      refine zi_beq (a := 1) rfl (zi_f (by decide) (zi_t (by rw [hso, hk0]; rfl) (zwi ?_)))
      exact .inl ⟨W, H, p, q1, q2, q3, q4, rfl, rfl, rfl, rfl, rfl, rfl, rfl, q13, hPR⟩
    · unfold gTown
      refine zi_beq (by rw [q5]; exact isG0 q1 q2) (zi_t rfl (zwi ?_))
      exact .inr ⟨k, q, q1, q2, q3, q4, q5, q6⟩
  rintro ⟨x0, x1, x2, x3, x4, x5, x6, x7, x8, x9, x10, x11, x12, x13, x14, x15, x16, x17, x18, x19, x20, x21, x22, x23, x24, x25, x26⟩ ⟨⟨u0, u1, u2, u3, u4, u5, u6, u7, u8, u9, u10, u11, u12, u13, u14, u15, u16, u17, u18, u19, u20, u21, u22, u23, u24, u25, u26, u27⟩, ey, hQ⟩
  dsimp only at hQ ⊢
  refine zwi ?_
  have hnl : ¬ nI sz < nI n := nI_nlt hnsz (by omega)
  rcases hQ with ⟨W, H, p, q1, q2, q3, q4, q5, q6, q7, q8, q9, q10, q11, q12, hPR⟩ | ⟨k, q, q1, q2, q3, q4, q5, q6⟩
  · subst q5 q6 q7 q8 q9 q10 q11
    obtain ⟨F, S, L, wl, t, w1, w2, w3, w4, w5, w6, w7, w8, w9, w10, w11, w12, w13, w14, w15, w16, w17, w18, w19, w20, w21, w22, w23, w24⟩ := hPR
    subst w1 w2 w4 w5 w7 w8 w10 w12
    refine zi_t rfl ?_
    unfold f_X8_begin
    refine zi_bind (zi_bind (zwp_mono (c_fillN (by decide)) ?_))
    intro f1 hf1
    refine zi_bind (zwp_mono (c_fillN (by decide)) ?_)
    intro f2 hf2
    refine zi_bind (zwp_mono (c_fillN (by decide)) ?_)
    intro f3 hf3
    refine zwi ?_
    refine zi_beq (a := 0) rfl (zi_beq (a := 0) rfl (zwi ?_))
    unfold f_X12_town
    refine zi_bind (zi_f h0 (zi_f hnl (zwi ?_)))
    refine zi_beq (a := (1, 0)) rfl (zi_f (by decide) ?_)
    refine zi_beq ey7 ?_
    refine zi_beq eg ?_
    refine zi_beq ek ?_
    refine zi_beq eT ?_
    refine zi_beq ey ?_
    refine zi_beq (a := 1) rfl (zi_f (by decide) ?_)
    refine zi_bind (zwp_mono (Q := fun v => v = x1) ?_ ?_)
    · rcases w14 with ⟨d1, d2, d3⟩ | ⟨d1, v, d2, d3, d4⟩
      · exact zi_t d2 (zwi d3.symm)
      · exact zi_f (by rw [d3]; exact nI_nm1 (by omega)) (zwi (d3.trans d4.symm))
    intro j84 e84
    refine zi_bind (zwp_mono (m_copiesN (by decide)) ?_)
    intro o85 h85
    refine zi_bind (zwp_mono (m_copiesN (by decide)) ?_)
    intro o86 h86
    refine zi_bind (zwp_mono (m_copiesN (by decide)) ?_)
    intro o87 h87
    refine zi_bind (zwp_mono (m_copiesN (by decide)) ?_)
    intro o88 h88
    refine zi_bind (zwp_mono (m_copiesN (by decide)) ?_)
    intro o89 h89
    refine zi_bind (zwp_mono m_rows70 ?_)
    intro y93 h93
    obtain ⟨gn, hgn, rok1, rcd1⟩ := RuR_fin w23 h89
    obtain ⟨hnn, hhn, rok2, rcd2⟩ := RuR_fin w24 h89
    have hWH : W * H ≤ 36 := Nat.mul_le_mul q2 q4
    refine zwi (.inr (.inr ⟨rfl, rfl, rfl, rfl, rfl, rfl, rfl, rfl, rfl, rfl, rfl, rfl, rfl, rfl, rfl, rfl, (W, H, F, x13, x15, L, x8, x1, gn, x4, hnn, x6), wl, S, ⟨q1, q2, q3, q4, w3, w9, fun f hf => ?_, rok1, rok2⟩, ⟨fun f hf => ?_, fun f hf k hk => ?_, fun k hk => ?_, rcd1, rcd2⟩, ⟨⟨?_, fun f hf => ?_, fun f hf => ?_, fun f hf => ?_, fun f hf => ?_, fun c hc => ?_⟩, ?_, by decide, by decide, w11, fun f hf => ?_, fun f hf => ?_, fun f hf => ?_, fun f hf => ?_⟩, ⟨w6, fun s hs => ?_⟩, rfl, rfl, rfl, rfl, rfl, rfl, rfl, hgn, rfl, rfl, hhn, rfl, rfl, rfl, rfl, rfl, rfl, rfl, rfl, rfl, rfl, rfl, e84⟩))
    · obtain ⟨s, v1, v2, v3, v4, v5⟩ := w16 f hf
      exact ⟨s, v3, v1, v2, fun k hk => by obtain ⟨w, z1, z2, z3⟩ := v5 k hk; exact ⟨w, z1, z2⟩⟩
    · obtain ⟨s, v1, v2, v3, v4, v5⟩ := w16 f hf
      have hf' : f < F := hf
      show o85 f = x13 f
      rw [h85 f (by omega), v3, v4]
    · obtain ⟨s, v1, v2, v3, v4, v5⟩ := w16 f hf
      have hf' : f < F := hf
      have hk' : k < (x13 f).toNatClampNeg := hk
      rw [v3, nI_clamp (by omega)] at hk'
      obtain ⟨w, z1, z2, z3⟩ := v5 k hk'
      show o86 (f * 8 + k) = x15 (f * 8 + k)
      rw [h86 _ (by omega), z2, Nat.mul_comm, z3]
    · have hk' : k < L := hk
      show o88 k = x8 k
      rw [h88 k (by omega)]; exact (w18 k hk').symm
    · show y93 0 = nI 0
      rw [h93 0 (by decide)]; exact w20
    · have hf' : f < F := hf
      obtain ⟨c, v1, v2, v3⟩ := w15 f hf'
      show y93 (0 + 1 + f) = va_cpy x12 ncell 0 0 8 f
      rw [h93 _ (by omega), cpy8 (by omega), v2, Nat.zero_add, v3]
    · have hf' : f < F := hf
      show y93 (0 + 9 + f) = f1 f
      rw [h93 _ (by omega), hf1 f (by omega)]; exact w22 _ (by omega) (by omega)
    · have hf' : f < F := hf
      show y93 (0 + 17 + f) = f2 f
      rw [h93 _ (by omega), hf2 f (by omega)]; exact w22 _ (by omega) (by omega)
    · have hf' : f < F := hf
      show y93 (0 + 25 + f) = nI 0
      rw [h93 _ (by omega)]; exact w22 _ (by omega) (by omega)
    · show y93 (0 + 33 + c) = _
      rw [h93 _ (by omega), Nat.zero_add]; exact w19 c hc
    · show y93 69 = nI 0
      rw [h93 69 (by decide)]; exact w21
    · have hf' : f < F := hf
      obtain ⟨c, v1, v2, v3⟩ := w15 f hf'
      exact ⟨c, by show va_cpy x12 ncell 0 0 8 f = nI c; rw [cpy8 (by omega), v2], v1⟩
    · have hf' : f < F := hf
      exact ⟨0, hf2 f (by omega), by omega⟩
    · have hf' : f < F := hf
      exact ⟨0, hf1 f (by omega), by omega⟩
    · have hf' : f < F := hf
      exact hf3 f (by omega)
    · obtain ⟨c, v1, v2, v3⟩ := w17 s hs
      refine ⟨?_, c, v2, v1⟩
      show x10 s = o87 s
      rw [h87 s (by omega), v2, v3]
  · refine zi_f (fun e => ?_) (zwi ?_)
    · rw [q3] at e
      have := (nI_z0 (n := k) (by omega)).mp e
      omega
    unfold f_X12_town
    refine zi_bind (zi_f h0 (zi_f hnl (zwi ?_)))
    refine zi_beq (a := (1, 0)) rfl (zi_f (by decide) ?_)
    refine zi_beq ey7 ?_
    refine zi_beq eg ?_
    refine zi_beq ek ?_
    refine zi_beq eT ?_
    refine zi_beq ey ?_
    refine zi_beq (by rw [q5]; exact isG0 q1 q2) (zi_t rfl (zwi ?_))
    exact .inr (.inl ⟨k, q, by rw [q3], rfl, q5, rfl, q4, q6, rfl, rfl, rfl, rfl, rfl, rfl, rfl, rfl, rfl, rfl, rfl, rfl, rfl, rfl, rfl, rfl, rfl, rfl, rfl, rfl, rfl, rfl, rfl, rfl, rfl, rfl, rfl, rfl, rfl, rfl, rfl, rfl⟩)
