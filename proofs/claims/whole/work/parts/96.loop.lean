/-! the loop -/
theorem w_lim {L n : Nat} (hL : L ≤ 3072) (hn : n ≤ 512) (h : ¬ Int32.ofNat L - 6 < nI (6 * n)) : 6 * n + 6 ≤ L := by
  have e1 : (Int32.ofNat L).toInt = (L : Int) := nI_toInt (n := L) (by omega)
  have e2 : (nI (6 * n)).toInt = ((6 * n : Nat) : Int) := nI_toInt (by omega)
  have e3 : (Int32.ofNat L - 6).toInt = (L : Int) - 6 := by
    rw [Int32.toInt_sub, e1]
    show ((L : Int) - (6 : Int32).toInt).bmod (2 ^ 32) = _
    rw [show (6 : Int32).toInt = 6 by decide]
    exact Int.bmod_eq_of_le (by omega) (by omega)
  rw [Int32.lt_iff_toInt_lt, e3, e2] at h
  omega
theorem w_63 : (Int8.ofInt 63).toInt32 = (63 : Int32) := zkb_63
theorem law_loop {L : Nat} {xs : Nat → Int32} (hL : L ≤ 3072) : ∀ (m n : Nat), L < 6 * n + 6 + 6 * m → 6 * n ≤ L → ∀ (p q : Nat) (I : pI) (J : pJ) (uc us : Nat) (v5 v6 : Option Value), Inv p q I J → uc ≤ 108 + n → us ≤ 23678 + 6 * n → LE L xs 23 (lsl (nI (6 * n)) v5 v6) [] uc us (pm_st 108 (shp p q) I J) := by
  intro m
  induction m with
  | zero =>
    intro n hm hb p q I J uc us v5 v6 H hu hs
    refine g_iload (pc' := 25) LEc rfl rfl rfl ?_
    refine g_aload_n (pc' := 26) LEc rfl rfl rfl rfl ?_
    refine g_arraylength_s (pc' := 27) (L := L) (xs := xs) LEc rfl rfl rfl ?_
    refine g_bipush (v := 6) (pc' := 29) LEc rfl zkb_6 rfl ?_
    refine g_isub (pc' := 30) LEc rfl rfl ?_
    refine g_icmp_gt (pc' := 33) LEc rfl rfl (fun _ => ?_) (fun h => ?_)
    · refine g_iconst (v := 1) (pc' := 2318) LEc rfl zki_1 rfl ?_
      exact g_ireturn LEc rfl rfl rfl (fun h => by cases h) rfl
    · have := w_lim hL (by omega) h
      omega
  | succ m ih =>
    intro n hm hb p q I J uc us v5 v6 H hu hs
    refine g_iload (pc' := 25) LEc rfl rfl rfl ?_
    refine g_aload_n (pc' := 26) LEc rfl rfl rfl rfl ?_
    refine g_arraylength_s (pc' := 27) (L := L) (xs := xs) LEc rfl rfl rfl ?_
    refine g_bipush (v := 6) (pc' := 29) LEc rfl zkb_6 rfl ?_
    refine g_isub (pc' := 30) LEc rfl rfl ?_
    refine g_icmp_gt (pc' := 33) LEc rfl rfl (fun _ => ?_) (fun h => ?_)
    · refine g_iconst (v := 1) (pc' := 2318) LEc rfl zki_1 rfl ?_
      exact g_ireturn LEc rfl rfl rfl (fun h => by cases h) rfl
    have hn := w_lim hL (by omega) h
    have K : LawK L xs n := by
      intro p q I J uc us v5 v6 H hu hs
      refine g_iinc (pc' := 2314) (w := nI 6) (ls1 := lsl (nI (6 * (n + 1))) v5 v6) LEc rfl rfl (by decide +kernel) (zlt rfl) (by rw [nI_add]; rfl) rfl ?_
      refine g_goto LEc rfl ?_
      exact ih (n + 1) (by omega) (by omega) p q I J uc us v5 v6 H hu hs
    refine g_aload_n (pc' := 34) LEc rfl rfl rfl rfl ?_
    refine g_iload (pc' := 36) LEc rfl rfl rfl ?_
    refine g_iaload_s (pc' := 37) (L := L) (xs := xs) LEc rfl rfl (nI_in (by omega) (by omega)) rfl ?_
    refine g_bipush (v := 63) (pc' := 39) LEc rfl zkb_63 rfl ?_
    refine g_iand (pc' := 40) LEc rfl rfl ?_
    generalize xs (nI (6 * n)).toNatClampNeg &&& 63 = x
    by_cases c0 : x = (0 : Int32)
    · exact z_switch (pc' := 200) LEc rfl (by rw [c0]; decide +kernel) (lc_feed hL hn hu hs H K)
    by_cases c1 : x = (1 : Int32)
    · exact z_switch (pc' := 273) LEc rfl (by rw [c1]; decide +kernel) (lc_town hL hn hu hs H K)
    by_cases c2 : x = (2 : Int32)
    · exact z_switch (pc' := 329) LEc rfl (by rw [c2]; decide +kernel) (lc_fault hL hn hu hs H K)
    by_cases c3 : x = (3 : Int32)
    · exact z_switch (pc' := 342) LEc rfl (by rw [c3]; decide +kernel) (lc_count hL hn hu hs H K)
    by_cases c4 : x = (4 : Int32)
    · exact z_switch (pc' := 398) LEc rfl (by rw [c4]; decide +kernel) (lc_figure hL hn hu hs H K)
    by_cases c5 : x = (5 : Int32)
    · exact z_switch (pc' := 466) LEc rfl (by rw [c5]; decide +kernel) (lc_cell hL hn hu hs H K)
    by_cases c6 : x = (6 : Int32)
    · exact z_switch (pc' := 534) LEc rfl (by rw [c6]; decide +kernel) (lc_hours hL hn hu hs H K)
    by_cases c7 : x = (7 : Int32)
    · exact z_switch (pc' := 559) LEc rfl (by rw [c7]; decide +kernel) (lc_stop hL hn hu hs H K)
    by_cases c8 : x = (8 : Int32)
    · exact z_switch (pc' := 627) LEc rfl (by rw [c8]; decide +kernel) (lc_lift hL hn hu hs H K)
    by_cases c9 : x = (9 : Int32)
    · exact z_switch (pc' := 695) LEc rfl (by rw [c9]; decide +kernel) (lc_brush hL hn hu hs H K)
    by_cases c10 : x = (10 : Int32)
    · exact z_switch (pc' := 751) LEc rfl (by rw [c10]; decide +kernel) (lc_wall hL hn hu hs H K)
    by_cases c11 : x = (11 : Int32)
    · exact z_switch (pc' := 842) LEc rfl (by rw [c11]; decide +kernel) (lc_undo hL hn hu hs H K)
    by_cases c12 : x = (12 : Int32)
    · exact z_switch (pc' := 855) LEc rfl (by rw [c12]; decide +kernel) (lc_then hL hn hu hs H K)
    by_cases c13 : x = (13 : Int32)
    · exact z_switch (pc' := 935) LEc rfl (by rw [c13]; decide +kernel) (lc_comes hL hn hu hs H K)
    by_cases c14 : x = (14 : Int32)
    · exact z_switch (pc' := 1003) LEc rfl (by rw [c14]; decide +kernel) (lc_meet hL hn hu hs H K)
    by_cases c15 : x = (15 : Int32)
    · exact z_switch (pc' := 1071) LEc rfl (by rw [c15]; decide +kernel) (lc_crowd hL hn hu hs H K)
    by_cases c16 : x = (16 : Int32)
    · exact z_switch (pc' := 1139) LEc rfl (by rw [c16]; decide +kernel) (lc_round hL hn hu hs H K)
    by_cases c17 : x = (17 : Int32)
    · exact z_switch (pc' := 1152) LEc rfl (by rw [c17]; decide +kernel) (lc_spread hL hn hu hs H K)
    by_cases c18 : x = (18 : Int32)
    · exact z_switch (pc' := 1220) LEc rfl (by rw [c18]; decide +kernel) (lc_way hL hn hu hs H K)
    by_cases c19 : x = (19 : Int32)
    · exact z_switch (pc' := 1300) LEc rfl (by rw [c19]; decide +kernel) (lc_toStop hL hn hu hs H K)
    by_cases c20 : x = (20 : Int32)
    · exact z_switch (pc' := 1380) LEc rfl (by rw [c20]; decide +kernel) (lc_toThin hL hn hu hs H K)
    by_cases c21 : x = (21 : Int32)
    · exact z_switch (pc' := 1436) LEc rfl (by rw [c21]; decide +kernel) (lc_seats hL hn hu hs H K)
    by_cases c22 : x = (22 : Int32)
    · exact z_switch (pc' := 1492) LEc rfl (by rw [c22]; decide +kernel) (lc_seat hL hn hu hs H K)
    by_cases c23 : x = (23 : Int32)
    · exact z_switch (pc' := 1548) LEc rfl (by rw [c23]; decide +kernel) (lc_note hL hn hu hs H K)
    by_cases c24 : x = (24 : Int32)
    · exact z_switch (pc' := 1628) LEc rfl (by rw [c24]; decide +kernel) (lc_forget hL hn hu hs H K)
    by_cases c25 : x = (25 : Int32)
    · exact z_switch (pc' := 1639) LEc rfl (by rw [c25]; decide +kernel) (lc_ahead hL hn hu hs H K)
    by_cases c26 : x = (26 : Int32)
    · exact z_switch (pc' := 1695) LEc rfl (by rw [c26]; decide +kernel) (lc_look hL hn hu hs H K)
    by_cases c27 : x = (27 : Int32)
    · exact z_switch (pc' := 1751) LEc rfl (by rw [c27]; decide +kernel) (lc_clouds hL hn hu hs H K)
    by_cases c28 : x = (28 : Int32)
    · exact z_switch (pc' := 1843) LEc rfl (by rw [c28]; decide +kernel) (lc_game hL hn hu hs H K)
    by_cases c29 : x = (29 : Int32)
    · exact z_switch (pc' := 1923) LEc rfl (by rw [c29]; decide +kernel) (lc_years hL hn hu hs H K)
    by_cases c30 : x = (30 : Int32)
    · exact z_switch (pc' := 2003) LEc rfl (by rw [c30]; decide +kernel) (lc_later hL hn hu hs H K)
    by_cases c31 : x = (31 : Int32)
    · exact z_switch (pc' := 2071) LEc rfl (by rw [c31]; decide +kernel) (lc_together hL hn hu hs H K)
    by_cases c32 : x = (32 : Int32)
    · exact z_switch (pc' := 2151) LEc rfl (by rw [c32]; decide +kernel) (lc_quiet hL hn hu hs H K)
    by_cases c33 : x = (33 : Int32)
    · exact z_switch (pc' := 2219) LEc rfl (by rw [c33]; decide +kernel) (lc_gone hL hn hu hs H K)
    by_cases c34 : x = (34 : Int32)
    · exact z_switch (pc' := 2287) LEc rfl (by rw [c34]; decide +kernel) (lc_image hL hn hu hs H K)
    by_cases c35 : x = (35 : Int32)
    · exact z_switch (pc' := 2298) LEc rfl (by rw [c35]; decide +kernel) (lc_restore hL hn hu hs H K)
    exact z_switch (pc' := 2311) LEc rfl (zsw_df (told := [(0 : Int32), (1 : Int32), (2 : Int32), (3 : Int32), (4 : Int32), (5 : Int32), (6 : Int32), (7 : Int32), (8 : Int32), (9 : Int32), (10 : Int32), (11 : Int32), (12 : Int32), (13 : Int32), (14 : Int32), (15 : Int32), (16 : Int32), (17 : Int32), (18 : Int32), (19 : Int32), (20 : Int32), (21 : Int32), (22 : Int32), (23 : Int32), (24 : Int32), (25 : Int32), (26 : Int32), (27 : Int32), (28 : Int32), (29 : Int32), (30 : Int32), (31 : Int32), (32 : Int32), (33 : Int32), (34 : Int32), (35 : Int32)]) (by decide +kernel) (by decide) rfl (zne_c c0 (zne_c c1 (zne_c c2 (zne_c c3 (zne_c c4 (zne_c c5 (zne_c c6 (zne_c c7 (zne_c c8 (zne_c c9 (zne_c c10 (zne_c c11 (zne_c c12 (zne_c c13 (zne_c c14 (zne_c c15 (zne_c c16 (zne_c c17 (zne_c c18 (zne_c c19 (zne_c c20 (zne_c c21 (zne_c c22 (zne_c c23 (zne_c c24 (zne_c c25 (zne_c c26 (zne_c c27 (zne_c c28 (zne_c c29 (zne_c c30 (zne_c c31 (zne_c c32 (zne_c c33 (zne_c c34 (zne_c c35 zne_n))))))))))))))))))))))))))))))))))))) (K _ _ _ _ _ _ _ _ H (by omega) (by omega))
