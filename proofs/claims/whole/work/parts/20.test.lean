theorem t_isWall {ext : pCall} (he : ∀ j as S (Q Q' : pQ), (∀ o S, Q o S → Q' o S) → ext j as S Q → ext j as S Q') {d a : Nat} {S : pS} {Q : pQ} {c : Int32} {fs : List Value} {w : Int64} (ha : a < S.1) (hS : S.2 a = .inr (3, fs)) (hw : fs[2]? = some (.long w))
    (h : Q (.inl (some (.int (if lg_cmp ((w.toUInt64 >>> (c.toInt64.toUInt64 &&& Int64.toUInt64 63)).toInt64 &&& 1) 0 = 0 then 0 else 1)))) S) : pm_call M cost ext (d + 1) 26 [.ref a, .int c] S Q := by
  have hc := pm_call_m (M := M) (cost := cost) he d
  refine pm_in (C := C_X3_isWall) (nL := 2) rfl (Nat.le_refl 2) ?_
  refine g_aload_n (pc' := 1) hc rfl rfl rfl rfl ?_
  refine g_getfield (pc' := 4) hc rfl rfl ha hS hw rfl ?_
  refine g_iload_n (pc' := 5) hc rfl rfl rfl ?_
  refine g_lushr (pc' := 6) hc rfl rfl ?_
  refine g_lconst (pc' := 7) (v := 1) hc rfl rfl rfl ?_
  refine g_land (pc' := 8) hc rfl rfl ?_
  refine g_lconst (pc' := 9) (v := 0) hc rfl rfl rfl ?_
  refine g_lcmp (pc' := 10) hc rfl rfl ?_
  refine g_if_eq (pc' := 13) hc rfl rfl (fun q => ?_) (fun q => ?_)
  · refine g_iconst (pc' := 18) (v := 0) hc rfl rfl rfl ?_
    refine g_ireturn hc rfl rfl rfl (fun _ => ⟨rfl, rfl⟩) ?_
    rw [if_pos q] at h
    exact h
  · refine g_iconst (pc' := 14) (v := 1) hc rfl rfl rfl ?_
    refine g_goto hc rfl ?_
    refine g_ireturn hc rfl rfl rfl (fun _ => ⟨rfl, rfl⟩) ?_
    rw [if_neg q] at h
    exact h
