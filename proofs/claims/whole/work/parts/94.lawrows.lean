/-! THE LAW'S LOOP: rows -/
abbrev LE (L : Nat) (xs : Nat → Int32) : pF := pm_ev (C_L_law L xs) 16 (pm_call M cost zext 15) cost (true, true) 0 1141 31924 (fun o _ => o = .inl (some (.int 1)))
abbrev lsl (i : Int32) (v5 v6 : Option Value) : pL := [some (.retAddr 1000), some (.ref 0), some (.ref 75), some (.ref 107), some (.int i), v5, v6]
theorem LEc : ∀ j as S (Q Q' : pQ), (∀ o S, Q o S → Q' o S) → pm_call M cost zext 15 j as S Q → pm_call M cost zext 15 j as S Q' := pm_call_m zext_m 15
/-- what comes behind a case -/
def LawK (L : Nat) (xs : Nat → Int32) (n : Nat) : Prop := ∀ (p q : Nat) (I : pI) (J : pJ) (uc us : Nat) (v5 v6 : Option Value), Inv p q I J → uc ≤ 108 + (n + 1) → us ≤ 23678 + 6 * (n + 1) → LE L xs 2311 (lsl (nI (6 * n)) v5 v6) [] uc us (pm_st 108 (shp p q) I J)
section LW
variable {L : Nat} {xs : Nat → Int32} {n : Nat} {v5 v6 : Option Value} {st r : List Value} {uc us : Nat} {S : pS} {pc : Nat} {p q : Nat} {I : pI} {J : pJ}
theorem w_arg {e t0 t1 t2 t3 t4 : Nat} {en : Int} (hL : L ≤ 3072) (he : 6 * n + e < L) (h0 : pc_in (C_L_law L xs) pc = some (.aload_n 0, t0)) (h1 : pc_in (C_L_law L xs) (pc + 1) = some (.iload 4, t1)) (h2 : pc_in (C_L_law L xs) (pc + 3) = some (.iconst en, t2)) (hv : Int32.ofInt en = nI e) (h3 : pc_in (C_L_law L xs) (pc + 4) = some (.iadd, t3)) (h4 : pc_in (C_L_law L xs) (pc + 5) = some (.iaload, t4)) (k : LE L xs (pc + 6) (lsl (nI (6 * n)) v5 v6) (.int (xs (6 * n + e)) :: st) uc us S) : LE L xs pc (lsl (nI (6 * n)) v5 v6) st uc us S := by
  refine g_aload_n (pc' := pc + 1) LEc h0 rfl rfl rfl ?_
  refine g_iload (pc' := pc + 3) LEc h1 rfl rfl ?_
  refine g_iconst (pc' := pc + 4) LEc h2 hv rfl ?_
  refine g_iadd (pc' := pc + 5) LEc h3 rfl ?_
  rw [nI_add]
  refine g_iaload_s (pc' := pc + 6) (L := L) (xs := xs) LEc h4 rfl (nI_in he (by omega)) rfl ?_
  rw [nI_clamp (by omega)]
  exact k
theorem w_e1 : Int32.ofInt 1 = nI 1 := by decide +kernel
theorem w_e2 : Int32.ofInt 2 = nI 2 := by decide +kernel
theorem w_e3 : Int32.ofInt 3 = nI 3 := by decide +kernel
theorem w_e4 : Int32.ofInt 4 = nI 4 := by decide +kernel
theorem w_e5 : Int32.ofInt 5 = nI 5 := by decide +kernel
/-- a call of a method on a cell -/
theorem w_virt {i j m ci a tg x y : Nat} {as : List Value} {ls : pL} {fs : List (Option (Option Nat))} {R : pQ} (hpc : pc_in (C_L_law L xs) pc = some (.invokevirtual i, tg)) (hm : pc_ml (C_L_law L xs) i = some (1, j, m, ci)) (hn : as.length = m) (ha : Nat.blt a 108 = true) (hs : shp p q a = .inl (ci, fs)) (hst : as.reverse ++ .ref a :: r = st) (hco : cost j = (x, y, false, false)) (hr : Nat.ble r.length 4 = true) (hu : uc + x ≤ 1141) (hu2 : us + y ≤ 31924) (hcall : pm_call M cost zext 15 j (.ref a :: as) (pm_st 108 (shp p q) I J) R) (k : ∀ o S, R o S → ∃ v : Option Value, o = .inl v ∧ LE L xs (pc + 3) ls (v.toList ++ r) uc us S) : LE L xs pc ls st uc us (pm_st 108 (shp p q) I J) := by
  subst hst
  refine g_virtual LEc hpc hm hn (zlt ha) (st_o hs) ?_
  unfold pm_inv
  refine ⟨zle hr, by rw [hco]; exact hu, by rw [hco]; exact hu2, (by rw [hco]; intro h; cases h), LEc _ _ _ _ _ ?_ hcall⟩
  intro o S h
  obtain ⟨v, rfl, k2⟩ := k o S h
  show pm_ev _ _ _ _ _ _ _ _ _ (pc + 3) ls (v.toList ++ r) (pm_nu (cost j).2.2.2 uc (cost j).1) (pm_nu (cost j).2.2.2 us (cost j).2.1) S
  rw [hco]
  exact k2
/-- a call of a helper -/
theorem w_help {i j m z tg : Nat} {as : List Value} {ls : pL} {R : pQ} (hpc : pc_in (C_L_law L xs) pc = some (.invokestatic i, tg)) (hm : pc_ml (C_L_law L xs) i = some (9, j, m, z)) (hn : as.length = m) (hst : as.reverse ++ r = st) (hco : cost j = (1, 6, false, true)) (hr : Nat.ble r.length 4 = true) (hu : uc + 1 ≤ 1141) (hu2 : us + 6 ≤ 31924) (hcall : pm_call M cost zext 15 j as S R) (k : ∀ o S, R o S → ∃ v : Option Value, o = .inl v ∧ LE L xs (pc + 3) ls (v.toList ++ r) (uc + 1) (us + 6) S) : LE L xs pc ls st uc us S := by
  refine z_help LEc hpc hm hn hst hco hr hu hu2 (LEc _ _ _ _ _ ?_ hcall)
  intro o S h
  obtain ⟨v, rfl, k2⟩ := k o S h
  show pm_ev _ _ _ _ _ _ _ _ _ (pc + 3) ls (v.toList ++ r) (pm_nu (cost j).2.2.2 uc (cost j).1) (pm_nu (cost j).2.2.2 us (cost j).2.1) S
  rw [hco]
  exact k2
theorem w_thrown {i tg : Nat} {ls : pL} {k : Int32} (hk : I 75 0 = k) (hpc : pc_in (C_L_law L xs) pc = some (.invokevirtual i, tg)) (hm : pc_ml (C_L_law L xs) i = some (1, 152, 0, 12)) (hr : Nat.ble r.length 4 = true) (hu : uc ≤ 1141) (hu2 : us ≤ 31924) (kk : LE L xs (pc + 3) ls (.int k :: r) uc us (pm_st 108 (shp p q) I J)) : LE L xs pc ls (.ref 75 :: r) uc us (pm_st 108 (shp p q) I J) := by
  refine w_virt (as := []) (a := 75) (R := fun o S => o = .inl (some (.int k)) ∧ S = pm_st 108 (shp p q) I J) hpc hm rfl rfl sh_75 rfl zco_152 hr hu hu2 (ok_X12_thrown_75 (by decide) ?_) ?_
  · subst hk
    exact zwi ⟨rfl, rfl⟩
  · rintro o S ⟨rfl, rfl⟩
    exact ⟨_, rfl, kk⟩
/-- behind both calls: the throws are compared, then the answers -/
theorem w_tail {k b : Int32} {i t0 t1 t2 t3 t5 t6 t7 t8 t9 t10 : Nat} {o1 o2 o3 o4 : Int} (H : Inv p q I J) (hthr : I 75 0 = k) (hans : k = 0 → J 107 0 = b.toInt64) (hn : n < 512) (hu : uc ≤ 108 + (n + 1)) (hs : us ≤ 23678 + 6 * (n + 1)) (K : LawK L xs n) (hm : pc_ml (C_L_law L xs) i = some (1, 152, 0, 12))
    (h0 : pc_in (C_L_law L xs) pc = some (.istore 6, t0)) (h1 : pc_in (C_L_law L xs) (pc + 2) = some (.aload_n 2, t1)) (h2 : pc_in (C_L_law L xs) (pc + 3) = some (.invokevirtual i, t2)) (h3 : pc_in (C_L_law L xs) (pc + 6) = some (.iload 5, t3)) (h4 : pc_in (C_L_law L xs) (pc + 8) = some (.if_icmp .eq o1, pc + 13)) (h5 : pc_in (C_L_law L xs) (pc + 13) = some (.iload 5, t5)) (h6 : pc_in (C_L_law L xs) (pc + 15) = some (.ifCond .ne o2, pc + 30)) (h7 : pc_in (C_L_law L xs) (pc + 18) = some (.aload_n 3, t6)) (h8 : pc_in (C_L_law L xs) (pc + 19) = some (.iconst 0, t7)) (h9 : pc_in (C_L_law L xs) (pc + 20) = some (.laload, t8)) (h10 : pc_in (C_L_law L xs) (pc + 21) = some (.iload 6, t9)) (h11 : pc_in (C_L_law L xs) (pc + 23) = some (.i2l, t10)) (h12 : pc_in (C_L_law L xs) (pc + 24) = some (.lcmp, t10)) (h13 : pc_in (C_L_law L xs) (pc + 25) = some (.ifCond .eq o3, pc + 30)) (h14 : pc_in (C_L_law L xs) (pc + 30) = some (.goto o4, 2311)) : LE L xs pc (lsl (nI (6 * n)) (some (.int k)) v6) [.int b] uc us (pm_st 108 (shp p q) I J) := by
  have hend : LE L xs (pc + 30) (lsl (nI (6 * n)) (some (.int k)) (some (.int b))) [] uc us (pm_st 108 (shp p q) I J) := g_goto LEc h14 (K _ _ _ _ _ _ _ _ H hu hs)
  refine g_istore (pc' := pc + 2) (ls1 := lsl (nI (6 * n)) (some (.int k)) (some (.int b))) LEc h0 (zlt rfl) rfl rfl ?_
  refine g_aload_n (pc' := pc + 3) LEc h1 rfl rfl rfl ?_
  refine w_thrown hthr h2 hm rfl (by omega) (by omega) ?_
  refine g_iload (pc' := pc + 8) LEc h3 rfl rfl ?_
  refine g_icmp_eq (pc' := pc + 11) LEc h4 rfl (fun _ => ?_) (fun h => absurd rfl h)
  refine g_iload (pc' := pc + 15) LEc h5 rfl rfl ?_
  refine g_if_ne (pc' := pc + 18) LEc h6 rfl (fun _ => hend) (fun h => ?_)
  refine g_aload_n (pc' := pc + 19) LEc h7 rfl rfl rfl ?_
  refine g_iconst (v := 0) (pc' := pc + 20) LEc h8 zki_0 rfl ?_
  refine t_laload (pc' := pc + 21) LEc h9 (by decide) sh_107 (by decide) rfl ?_
  refine g_iload (pc' := pc + 23) LEc h10 rfl rfl ?_
  refine g_i2l (pc' := pc + 24) LEc h11 rfl ?_
  refine g_lcmp (pc' := pc + 25) LEc h12 rfl ?_
  exact g_if_eq (pc' := pc + 28) LEc h13 rfl (fun _ => hend) (fun hne => absurd (lg_cmp_0.mpr (hans h)) hne)
/-- a truth value out of an int -/
theorem w_bool {x : Int32} {ls : pL} {t1 t2 : Nat} {o1 o2 : Int} (h0 : pc_in (C_L_law L xs) pc = some (.ifCond .eq o1, pc + 7)) (h1 : pc_in (C_L_law L xs) (pc + 3) = some (.iconst 1, t1)) (h2 : pc_in (C_L_law L xs) (pc + 4) = some (.goto o2, pc + 8)) (h3 : pc_in (C_L_law L xs) (pc + 7) = some (.iconst 0, t2)) (k : LE L xs (pc + 8) ls (.int (b2 (!(x == 0))) :: st) uc us S) : LE L xs pc ls (.int x :: st) uc us S := by
  refine g_if_eq (pc' := pc + 3) LEc h0 rfl (fun h => ?_) (fun h => ?_)
  · refine g_iconst (v := 0) (pc' := pc + 8) LEc h3 zki_0 rfl ?_
    subst h
    exact k
  · refine g_iconst (v := 1) (pc' := pc + 4) LEc h1 zki_1 rfl ?_
    refine g_goto LEc h2 ?_
    have e : b2 (!(x == 0)) = 1 := by
      have : (x == 0) = false := by simpa using h
      rw [this]; rfl
    rw [e] at k
    exact k
theorem w_tailW {k b : Int32} {i t0 t1 t2 t3 t5 t6 t7 t8 t9 t10 t11 : Nat} {o1 o2 o3 o4 o5 o6 : Int} (H : Inv p q I J) (hthr : I 75 0 = k) (hans : k = 0 → J 107 0 = b.toInt64) (h01 : b = 0 ∨ b = 1) (hn : n < 512) (hu : uc ≤ 108 + (n + 1)) (hs : us ≤ 23678 + 6 * (n + 1)) (K : LawK L xs n) (hm : pc_ml (C_L_law L xs) i = some (1, 152, 0, 12))
    (h0 : pc_in (C_L_law L xs) pc = some (.istore 6, t0)) (h1 : pc_in (C_L_law L xs) (pc + 2) = some (.aload_n 2, t1)) (h2 : pc_in (C_L_law L xs) (pc + 3) = some (.invokevirtual i, t2)) (h3 : pc_in (C_L_law L xs) (pc + 6) = some (.iload 5, t3)) (h4 : pc_in (C_L_law L xs) (pc + 8) = some (.if_icmp .eq o1, pc + 13)) (h5 : pc_in (C_L_law L xs) (pc + 13) = some (.iload 5, t5)) (h6 : pc_in (C_L_law L xs) (pc + 15) = some (.ifCond .ne o2, pc + 37)) (h7 : pc_in (C_L_law L xs) (pc + 18) = some (.aload_n 3, t6)) (h8 : pc_in (C_L_law L xs) (pc + 19) = some (.iconst 0, t7)) (h9 : pc_in (C_L_law L xs) (pc + 20) = some (.laload, t8)) (h10 : pc_in (C_L_law L xs) (pc + 21) = some (.iload 6, t9)) (h11 : pc_in (C_L_law L xs) (pc + 23) = some (.ifCond .eq o5, pc + 30)) (h15 : pc_in (C_L_law L xs) (pc + 26) = some (.lconst 1, t10)) (h16 : pc_in (C_L_law L xs) (pc + 27) = some (.goto o6, pc + 31)) (h17 : pc_in (C_L_law L xs) (pc + 30) = some (.lconst 0, t11)) (h12 : pc_in (C_L_law L xs) (pc + 31) = some (.lcmp, t10)) (h13 : pc_in (C_L_law L xs) (pc + 32) = some (.ifCond .eq o3, pc + 37)) (h14 : pc_in (C_L_law L xs) (pc + 37) = some (.goto o4, 2311)) : LE L xs pc (lsl (nI (6 * n)) (some (.int k)) v6) [.int b] uc us (pm_st 108 (shp p q) I J) := by
  have hend : LE L xs (pc + 37) (lsl (nI (6 * n)) (some (.int k)) (some (.int b))) [] uc us (pm_st 108 (shp p q) I J) := g_goto LEc h14 (K _ _ _ _ _ _ _ _ H hu hs)
  refine g_istore (pc' := pc + 2) (ls1 := lsl (nI (6 * n)) (some (.int k)) (some (.int b))) LEc h0 (zlt rfl) rfl rfl ?_
  refine g_aload_n (pc' := pc + 3) LEc h1 rfl rfl rfl ?_
  refine w_thrown hthr h2 hm rfl (by omega) (by omega) ?_
  refine g_iload (pc' := pc + 8) LEc h3 rfl rfl ?_
  refine g_icmp_eq (pc' := pc + 11) LEc h4 rfl (fun _ => ?_) (fun h => absurd rfl h)
  refine g_iload (pc' := pc + 15) LEc h5 rfl rfl ?_
  refine g_if_ne (pc' := pc + 18) LEc h6 rfl (fun _ => hend) (fun h => ?_)
  refine g_aload_n (pc' := pc + 19) LEc h7 rfl rfl rfl ?_
  refine g_iconst (v := 0) (pc' := pc + 20) LEc h8 zki_0 rfl ?_
  refine t_laload (pc' := pc + 21) LEc h9 (by decide) sh_107 (by decide) rfl ?_
  refine g_iload (pc' := pc + 23) LEc h10 rfl rfl ?_
  refine g_if_eq (pc' := pc + 26) LEc h11 rfl (fun hb => ?_) (fun hb => ?_)
  · refine g_lconst (v := 0) (pc' := pc + 31) LEc h17 zkl_0 rfl ?_
    refine g_lcmp (pc' := pc + 32) LEc h12 rfl ?_
    subst hb
    exact g_if_eq (pc' := pc + 35) LEc h13 rfl (fun _ => hend) (fun hne => absurd (lg_cmp_0.mpr (hans h)) hne)
  · refine g_lconst (v := 1) (pc' := pc + 27) LEc h15 zkl_1 rfl ?_
    refine g_goto LEc h16 ?_
    refine g_lcmp (pc' := pc + 32) LEc h12 rfl ?_
    have hb1 : b = 1 := h01.resolve_left hb
    subst hb1
    exact g_if_eq (pc' := pc + 35) LEc h13 rfl (fun _ => hend) (fun hne => absurd (lg_cmp_0.mpr (hans h)) hne)
end LW
